/-! walked by program: 15.w -/
section
variable {p : Program} {l : Launch} {e : Env} {s : State} {m : MethodId} {args : Array Value} {below : List Frame} {meth : Method} {c : Code} {D : va_G} {ct : Nat → ClassId} {ad : Nat → Nat → Nat} {L : List (Nat × Nat)} {φ : Nat → Nat → Nat → Bool} {N0 : Nat}
variable {Q : Int → St → Prop}
theorem pd_X12_thrown : yX12_thrown.cls ≠ "java/lang/invoke/MethodHandle" ∧ yX12_thrown.cls ≠ "java/lang/invoke/VarHandle" ∧ (parseMethodDescriptor yX12_thrown.desc).map (fun d => d.parameters.length) = some 0 := by decide +kernel
set_option maxRecDepth 100000 in
set_option maxHeartbeats 4000000 in
theorem c_X12_thrown (l : Launch) (D : va_G) (ct : Nat → ClassId) (ad : Nat → Nat → Nat) (L : List (Nat × Nat)) (φ : Nat → Nat → Nat → Bool) (N0 : Nat) (σ : St) (Q : Int → St → Prop) (hw : wp_X12_thrown σ Q) : Met l yX12_thrown (.code yX12_thrown cX12_thrown 1 (some .int) :: gw) ({ frames := 0, cells := 0, slots := 0, locals := 0 } : Room) (Pm D ct ad L φ N0 σ [.ref (ad 12 0)]) (Qi D ct ad L φ N0 Q) 0 0 (AA N0) := by
  refine m_of (by decide) (fun p e s m below meth c X hnm h => ?_)
  have hF := X.2.2.2.2.2.2.2.2.1
  have hl := lv_entry ([.ref (ad 12 0)]) (n := 1) (Nat.le_of_ble_eq_true rfl)
  rw [lg_entry_eq]
  generalize (lg_sl ([.ref (ad 12 0)]) ++ List.replicate (1 - (lg_sl ([.ref (ad 12 0)])).length) Slot.unset).toArray = ls at hl ⊢
  have hl : lv_has ls 1 [(0, .ref (ad 12 0))] := hl
  have h : Hs D ct ad L φ N0 s.heap σ s.heap [] := h
  unfold wp_X12_thrown at hw
  refine lv_aload_n X.1 X.2.1 dX12_thrown_0 rfl (lv_at hl 0 rfl) ?_
  refine r_get (ci := 12) X inw_12 h (hF.1 12 rfl).1 rfl rfl 0 (by decide) kw_1638 rfl dX12_thrown_1 ?_
  exact k_ir X rfl h hw dX12_thrown_4
end
section
variable {p : Program} {l : Launch} {e : Env} {s : State} {m : MethodId} {args : Array Value} {below : List Frame} {meth : Method} {c : Code} {D : va_G} {ct : Nat → ClassId} {ad : Nat → Nat → Nat} {L : List (Nat × Nat)} {φ : Nat → Nat → Nat → Bool} {N0 : Nat}
variable {Q : Int → St → Prop}
theorem pd_X12_within : yX12_within.cls ≠ "java/lang/invoke/MethodHandle" ∧ yX12_within.cls ≠ "java/lang/invoke/VarHandle" ∧ (parseMethodDescriptor yX12_within.desc).map (fun d => d.parameters.length) = some 3 := by decide +kernel
set_option maxRecDepth 100000 in
set_option maxHeartbeats 4000000 in
theorem c_X12_within (l : Launch) (D : va_G) (ct : Nat → ClassId) (ad : Nat → Nat → Nat) (L : List (Nat × Nat)) (φ : Nat → Nat → Nat → Bool) (N0 : Nat) (σ : St) (x0 : Int) (x1 : Int) (x2 : Int) (Q : Int → St → Prop) (hw : wp_X12_within σ x0 x1 x2 Q) : Met l yX12_within (.code yX12_within cX12_within 3 (some .boolean) :: gw) ({ frames := 0, cells := 0, slots := 0, locals := 0 } : Room) (Pm D ct ad L φ N0 σ [.int (iv x0), .int (iv x1), .int (iv x2)]) (Qi D ct ad L φ N0 Q) 0 0 (AA N0) := by
  refine m_of (by decide) (fun p e s m below meth c X hnm h => ?_)
  have hF := X.2.2.2.2.2.2.2.2.1
  have hl := lv_entry ([.int (iv x0), .int (iv x1), .int (iv x2)]) (n := 3) (Nat.le_of_ble_eq_true rfl)
  rw [lg_entry_eq]
  generalize (lg_sl ([.int (iv x0), .int (iv x1), .int (iv x2)]) ++ List.replicate (3 - (lg_sl ([.int (iv x0), .int (iv x1), .int (iv x2)])).length) Slot.unset).toArray = ls at hl ⊢
  have hl : lv_has ls 3 [(0, .int (iv x0)), (1, .int (iv x1)), (2, .int (iv x2))] := hl
  have h : Hs D ct ad L φ N0 s.heap σ s.heap [] := h
  unfold wp_X12_within at hw
  refine lv_iload_n X.1 X.2.1 dX12_within_0 rfl (lv_at hl 0 rfl) ?_
  refine lv_iload_n X.1 X.2.1 dX12_within_1 rfl (lv_at hl 1 rfl) ?_
  obtain ⟨g_1, g_2, hwt, hwf⟩ := hw
  refine j_cmp_lt (tgt := 14) X g_1 g_2 dX12_within_2 (by decide) (fun c_6 => ?_) (fun c_6 => ?_)
  · have hw := hwt c_6
    refine j_iconst X dX12_within_14 ?_
    exact k_ir X rfl h hw dX12_within_15
  · have hw := hwf c_6
    refine lv_iload_n X.1 X.2.1 dX12_within_5 rfl (lv_at hl 0 rfl) ?_
    refine lv_iload_n X.1 X.2.1 dX12_within_6 rfl (lv_at hl 2 rfl) ?_
    obtain ⟨g_3, g_4, hwt, hwf⟩ := hw
    refine j_cmp_gt (tgt := 14) X g_3 g_4 dX12_within_7 (by decide) (fun c_5 => ?_) (fun c_5 => ?_)
    · have hw := hwt c_5
      refine j_iconst X dX12_within_14 ?_
      exact k_ir X rfl h hw dX12_within_15
    · have hw := hwf c_5
      refine j_iconst X dX12_within_10 ?_
      refine lv_goto (tgt := 15) X.1 X.2.1 dX12_within_11 (by decide) ?_
      exact k_ir X rfl h hw dX12_within_15
end
section
variable {p : Program} {l : Launch} {e : Env} {s : State} {m : MethodId} {args : Array Value} {below : List Frame} {meth : Method} {c : Code} {D : va_G} {ct : Nat → ClassId} {ad : Nat → Nat → Nat} {L : List (Nat × Nat)} {φ : Nat → Nat → Nat → Bool} {N0 : Nat}
variable {Q : Int → St → Prop}
theorem pd_X12_isCell : yX12_isCell.cls ≠ "java/lang/invoke/MethodHandle" ∧ yX12_isCell.cls ≠ "java/lang/invoke/VarHandle" ∧ (parseMethodDescriptor yX12_isCell.desc).map (fun d => d.parameters.length) = some 1 := by decide +kernel
set_option maxRecDepth 100000 in
set_option maxHeartbeats 4000000 in
theorem c_X12_isCell (l : Launch) (D : va_G) (ct : Nat → ClassId) (ad : Nat → Nat → Nat) (L : List (Nat × Nat)) (φ : Nat → Nat → Nat → Bool) (N0 : Nat) (σ : St) (x0 : Int) (Q : Int → St → Prop) (hw : wp_X12_isCell σ x0 Q) : Met l yX12_isCell (.code yX12_isCell cX12_isCell 1 (some .boolean) :: gw) ({ frames := 1, cells := 0, slots := 0, locals := 22 } : Room) (Pm D ct ad L φ N0 σ [.int (iv x0)]) (Qi D ct ad L φ N0 Q) 0 0 (AA N0) := by
  refine m_of (by decide) (fun p e s m below meth c X hnm h => ?_)
  have hF := X.2.2.2.2.2.2.2.2.1
  have hl := lv_entry ([.int (iv x0)]) (n := 1) (Nat.le_of_ble_eq_true rfl)
  rw [lg_entry_eq]
  generalize (lg_sl ([.int (iv x0)]) ++ List.replicate (1 - (lg_sl ([.int (iv x0)])).length) Slot.unset).toArray = ls at hl ⊢
  have hl : lv_has ls 1 [(0, .int (iv x0))] := hl
  have h : Hs D ct ad L φ N0 s.heap σ s.heap [] := h
  unfold wp_X12_isCell at hw
  refine lv_iload_n X.1 X.2.1 dX12_isCell_0 rfl (lv_at hl 0 rfl) ?_
  refine j_iconst X dX12_isCell_1 ?_
  refine j_bipush X dX12_isCell_2 (by decide) ?_
  refine k_i h (r_S (As := [.int (iv x0), .int (iv 0), .int (iv 63)]) (rest := []) X h (c_X12_within l D ct ad L φ N0 σ x0 0 63 _ hw) rfl rfl ⟨Nat.le_of_ble_eq_true rfl, Nat.le_of_ble_eq_true rfl⟩ kw_1959 kw_1960 kw_129 kw_1961 pd_X12_within rfl hl.1 rfl (Nat.le_of_ble_eq_true rfl) ⟨Nat.le_of_ble_eq_true rfl, Nat.le_of_ble_eq_true rfl⟩ dX12_isCell_4) (fun r_2 σ_1 H locs hw h => ?_)
  obtain ⟨g_3, hw⟩ := hw
  exact k_ir X (nb_n g_3) h hw dX12_isCell_7
end
section
variable {p : Program} {l : Launch} {e : Env} {s : State} {m : MethodId} {args : Array Value} {below : List Frame} {meth : Method} {c : Code} {D : va_G} {ct : Nat → ClassId} {ad : Nat → Nat → Nat} {L : List (Nat × Nat)} {φ : Nat → Nat → Nat → Bool} {N0 : Nat}
variable {Q : Int → St → Prop}
theorem pd_X12_xOf : yX12_xOf.cls ≠ "java/lang/invoke/MethodHandle" ∧ yX12_xOf.cls ≠ "java/lang/invoke/VarHandle" ∧ (parseMethodDescriptor yX12_xOf.desc).map (fun d => d.parameters.length) = some 1 := by decide +kernel
set_option maxRecDepth 100000 in
set_option maxHeartbeats 4000000 in
theorem c_X12_xOf (l : Launch) (D : va_G) (ct : Nat → ClassId) (ad : Nat → Nat → Nat) (L : List (Nat × Nat)) (φ : Nat → Nat → Nat → Bool) (N0 : Nat) (σ : St) (x0 : Int) (Q : Int → St → Prop) (hw : wp_X12_xOf σ x0 Q) : Met l yX12_xOf (.code yX12_xOf cX12_xOf 1 (some .int) :: gw) ({ frames := 0, cells := 0, slots := 0, locals := 0 } : Room) (Pm D ct ad L φ N0 σ [.int (iv x0)]) (Qi D ct ad L φ N0 Q) 0 0 (AA N0) := by
  refine m_of (by decide) (fun p e s m below meth c X hnm h => ?_)
  have hF := X.2.2.2.2.2.2.2.2.1
  have hl := lv_entry ([.int (iv x0)]) (n := 1) (Nat.le_of_ble_eq_true rfl)
  rw [lg_entry_eq]
  generalize (lg_sl ([.int (iv x0)]) ++ List.replicate (1 - (lg_sl ([.int (iv x0)])).length) Slot.unset).toArray = ls at hl ⊢
  have hl : lv_has ls 1 [(0, .int (iv x0))] := hl
  have h : Hs D ct ad L φ N0 s.heap σ s.heap [] := h
  unfold wp_X12_xOf at hw
  refine lv_iload_n X.1 X.2.1 dX12_xOf_0 rfl (lv_at hl 0 rfl) ?_
  refine j_bipush X dX12_xOf_1 (by decide) ?_
  obtain ⟨g_1, hw⟩ := hw
  refine j_irem X g_1 ⟨by decide, by decide⟩ (by decide) (by decide) dX12_xOf_3 ?_
  exact k_ir X rfl h hw dX12_xOf_4
end
section
variable {p : Program} {l : Launch} {e : Env} {s : State} {m : MethodId} {args : Array Value} {below : List Frame} {meth : Method} {c : Code} {D : va_G} {ct : Nat → ClassId} {ad : Nat → Nat → Nat} {L : List (Nat × Nat)} {φ : Nat → Nat → Nat → Bool} {N0 : Nat}
variable {Q : Int → St → Prop}
theorem pd_X12_yOf : yX12_yOf.cls ≠ "java/lang/invoke/MethodHandle" ∧ yX12_yOf.cls ≠ "java/lang/invoke/VarHandle" ∧ (parseMethodDescriptor yX12_yOf.desc).map (fun d => d.parameters.length) = some 1 := by decide +kernel
set_option maxRecDepth 100000 in
set_option maxHeartbeats 4000000 in
theorem c_X12_yOf (l : Launch) (D : va_G) (ct : Nat → ClassId) (ad : Nat → Nat → Nat) (L : List (Nat × Nat)) (φ : Nat → Nat → Nat → Bool) (N0 : Nat) (σ : St) (x0 : Int) (Q : Int → St → Prop) (hw : wp_X12_yOf σ x0 Q) : Met l yX12_yOf (.code yX12_yOf cX12_yOf 1 (some .int) :: gw) ({ frames := 0, cells := 0, slots := 0, locals := 0 } : Room) (Pm D ct ad L φ N0 σ [.int (iv x0)]) (Qi D ct ad L φ N0 Q) 0 0 (AA N0) := by
  refine m_of (by decide) (fun p e s m below meth c X hnm h => ?_)
  have hF := X.2.2.2.2.2.2.2.2.1
  have hl := lv_entry ([.int (iv x0)]) (n := 1) (Nat.le_of_ble_eq_true rfl)
  rw [lg_entry_eq]
  generalize (lg_sl ([.int (iv x0)]) ++ List.replicate (1 - (lg_sl ([.int (iv x0)])).length) Slot.unset).toArray = ls at hl ⊢
  have hl : lv_has ls 1 [(0, .int (iv x0))] := hl
  have h : Hs D ct ad L φ N0 s.heap σ s.heap [] := h
  unfold wp_X12_yOf at hw
  refine lv_iload_n X.1 X.2.1 dX12_yOf_0 rfl (lv_at hl 0 rfl) ?_
  refine j_bipush X dX12_yOf_1 (by decide) ?_
  obtain ⟨g_1, hw⟩ := hw
  refine j_idiv X g_1 ⟨by decide, by decide⟩ (by decide) (by decide) dX12_yOf_3 ?_
  exact k_ir X rfl h hw dX12_yOf_4
end
section
variable {p : Program} {l : Launch} {e : Env} {s : State} {m : MethodId} {args : Array Value} {below : List Frame} {meth : Method} {c : Code} {D : va_G} {ct : Nat → ClassId} {ad : Nat → Nat → Nat} {L : List (Nat × Nat)} {φ : Nat → Nat → Nat → Bool} {N0 : Nat}
variable {Q : Int → St → Prop}
theorem pd_X12_apart : yX12_apart.cls ≠ "java/lang/invoke/MethodHandle" ∧ yX12_apart.cls ≠ "java/lang/invoke/VarHandle" ∧ (parseMethodDescriptor yX12_apart.desc).map (fun d => d.parameters.length) = some 2 := by decide +kernel
set_option maxRecDepth 100000 in
set_option maxHeartbeats 4000000 in
theorem c_X12_apart (l : Launch) (D : va_G) (ct : Nat → ClassId) (ad : Nat → Nat → Nat) (L : List (Nat × Nat)) (φ : Nat → Nat → Nat → Bool) (N0 : Nat) (σ : St) (x0 : Int) (x1 : Int) (Q : Int → St → Prop) (hw : wp_X12_apart σ x0 x1 Q) : Met l yX12_apart (.code yX12_apart cX12_apart 2 (some .int) :: gw) ({ frames := 0, cells := 0, slots := 0, locals := 0 } : Room) (Pm D ct ad L φ N0 σ [.int (iv x0), .int (iv x1)]) (Qi D ct ad L φ N0 Q) 0 0 (AA N0) := by
  refine m_of (by decide) (fun p e s m below meth c X hnm h => ?_)
  have hF := X.2.2.2.2.2.2.2.2.1
  have hl := lv_entry ([.int (iv x0), .int (iv x1)]) (n := 2) (Nat.le_of_ble_eq_true rfl)
  rw [lg_entry_eq]
  generalize (lg_sl ([.int (iv x0), .int (iv x1)]) ++ List.replicate (2 - (lg_sl ([.int (iv x0), .int (iv x1)])).length) Slot.unset).toArray = ls at hl ⊢
  have hl : lv_has ls 2 [(0, .int (iv x0)), (1, .int (iv x1))] := hl
  have h : Hs D ct ad L φ N0 s.heap σ s.heap [] := h
  unfold wp_X12_apart at hw
  refine lv_iload_n X.1 X.2.1 dX12_apart_0 rfl (lv_at hl 0 rfl) ?_
  refine lv_iload_n X.1 X.2.1 dX12_apart_1 rfl (lv_at hl 1 rfl) ?_
  obtain ⟨g_1, g_2, hwt, hwf⟩ := hw
  refine j_cmp_ge (tgt := 11) X g_1 g_2 dX12_apart_2 (by decide) (fun c_3 => ?_) (fun c_3 => ?_)
  · have hw := hwt c_3
    refine lv_iload_n X.1 X.2.1 dX12_apart_11 rfl (lv_at hl 0 rfl) ?_
    refine lv_iload_n X.1 X.2.1 dX12_apart_12 rfl (lv_at hl 1 rfl) ?_
    refine j_isub X dX12_apart_13 ?_
    exact k_ir X rfl h hw dX12_apart_14
  · have hw := hwf c_3
    refine lv_iload_n X.1 X.2.1 dX12_apart_5 rfl (lv_at hl 1 rfl) ?_
    refine lv_iload_n X.1 X.2.1 dX12_apart_6 rfl (lv_at hl 0 rfl) ?_
    refine j_isub X dX12_apart_7 ?_
    refine lv_goto (tgt := 14) X.1 X.2.1 dX12_apart_8 (by decide) ?_
    exact k_ir X rfl h hw dX12_apart_14
end
section
variable {p : Program} {l : Launch} {e : Env} {s : State} {m : MethodId} {args : Array Value} {below : List Frame} {meth : Method} {c : Code} {D : va_G} {ct : Nat → ClassId} {ad : Nat → Nat → Nat} {L : List (Nat × Nat)} {φ : Nat → Nat → Nat → Bool} {N0 : Nat}
variable {Q : Int → St → Prop}
theorem pd_X12_areBeside : yX12_areBeside.cls ≠ "java/lang/invoke/MethodHandle" ∧ yX12_areBeside.cls ≠ "java/lang/invoke/VarHandle" ∧ (parseMethodDescriptor yX12_areBeside.desc).map (fun d => d.parameters.length) = some 2 := by decide +kernel
set_option maxRecDepth 100000 in
set_option maxHeartbeats 4000000 in
theorem c_X12_areBeside (l : Launch) (D : va_G) (ct : Nat → ClassId) (ad : Nat → Nat → Nat) (L : List (Nat × Nat)) (φ : Nat → Nat → Nat → Bool) (N0 : Nat) (σ : St) (x0 : Int) (x1 : Int) (Q : Int → St → Prop) (hw : wp_X12_areBeside σ x0 x1 Q) : Met l yX12_areBeside (.code yX12_areBeside cX12_areBeside 2 (some .boolean) :: gw) ({ frames := 1, cells := 0, slots := 0, locals := 21 } : Room) (Pm D ct ad L φ N0 σ [.int (iv x0), .int (iv x1)]) (Qi D ct ad L φ N0 Q) 0 0 (AA N0) := by
  refine m_of (by decide) (fun p e s m below meth c X hnm h => ?_)
  have hF := X.2.2.2.2.2.2.2.2.1
  have hl := lv_entry ([.int (iv x0), .int (iv x1)]) (n := 2) (Nat.le_of_ble_eq_true rfl)
  rw [lg_entry_eq]
  generalize (lg_sl ([.int (iv x0), .int (iv x1)]) ++ List.replicate (2 - (lg_sl ([.int (iv x0), .int (iv x1)])).length) Slot.unset).toArray = ls at hl ⊢
  have hl : lv_has ls 2 [(0, .int (iv x0)), (1, .int (iv x1))] := hl
  have h : Hs D ct ad L φ N0 s.heap σ s.heap [] := h
  unfold wp_X12_areBeside at hw
  refine lv_iload_n X.1 X.2.1 dX12_areBeside_0 rfl (lv_at hl 0 rfl) ?_
  refine k_i h (r_S (As := [.int (iv x0)]) (rest := []) X h (c_X12_xOf l D ct ad L φ N0 σ x0 _ hw) rfl rfl ⟨Nat.le_of_ble_eq_true rfl, Nat.le_of_ble_eq_true rfl⟩ kw_2158 kw_2159 kw_129 kw_2160 pd_X12_xOf rfl hl.1 rfl (Nat.le_of_ble_eq_true rfl) ⟨Nat.le_of_ble_eq_true rfl, Nat.le_of_ble_eq_true rfl⟩ dX12_areBeside_1) (fun r_2 σ_1 H locs hw h => ?_)
  refine lv_iload_n X.1 X.2.1 dX12_areBeside_4 rfl (lv_at hl 1 rfl) ?_
  refine k_i h (r_S (As := [.int (iv x1)]) (rest := [.int (iv r_2)]) X h (c_X12_xOf l D ct ad L φ N0 σ_1 x1 _ hw) rfl rfl ⟨Nat.le_of_ble_eq_true rfl, Nat.le_of_ble_eq_true rfl⟩ kw_2158 kw_2159 kw_129 kw_2160 pd_X12_xOf rfl hl.1 rfl (Nat.le_of_ble_eq_true rfl) ⟨Nat.le_of_ble_eq_true rfl, Nat.le_of_ble_eq_true rfl⟩ dX12_areBeside_5) (fun r_4 σ_3 H locs hw h => ?_)
  refine k_i h (r_S (As := [.int (iv r_2), .int (iv r_4)]) (rest := []) X h (c_X12_apart l D ct ad L φ N0 σ_3 r_2 r_4 _ hw) rfl rfl ⟨Nat.le_of_ble_eq_true rfl, Nat.le_of_ble_eq_true rfl⟩ kw_2161 kw_2162 kw_129 kw_2163 pd_X12_apart rfl hl.1 rfl (Nat.le_of_ble_eq_true rfl) ⟨Nat.le_of_ble_eq_true rfl, Nat.le_of_ble_eq_true rfl⟩ dX12_areBeside_8) (fun r_6 σ_5 H locs hw h => ?_)
  refine lv_iload_n X.1 X.2.1 dX12_areBeside_11 rfl (lv_at hl 0 rfl) ?_
  refine k_i h (r_S (As := [.int (iv x0)]) (rest := [.int (iv r_6)]) X h (c_X12_yOf l D ct ad L φ N0 σ_5 x0 _ hw) rfl rfl ⟨Nat.le_of_ble_eq_true rfl, Nat.le_of_ble_eq_true rfl⟩ kw_2164 kw_2165 kw_129 kw_2166 pd_X12_yOf rfl hl.1 rfl (Nat.le_of_ble_eq_true rfl) ⟨Nat.le_of_ble_eq_true rfl, Nat.le_of_ble_eq_true rfl⟩ dX12_areBeside_12) (fun r_8 σ_7 H locs hw h => ?_)
  refine lv_iload_n X.1 X.2.1 dX12_areBeside_15 rfl (lv_at hl 1 rfl) ?_
  refine k_i h (r_S (As := [.int (iv x1)]) (rest := [.int (iv r_8), .int (iv r_6)]) X h (c_X12_yOf l D ct ad L φ N0 σ_7 x1 _ hw) rfl rfl ⟨Nat.le_of_ble_eq_true rfl, Nat.le_of_ble_eq_true rfl⟩ kw_2164 kw_2165 kw_129 kw_2166 pd_X12_yOf rfl hl.1 rfl (Nat.le_of_ble_eq_true rfl) ⟨Nat.le_of_ble_eq_true rfl, Nat.le_of_ble_eq_true rfl⟩ dX12_areBeside_16) (fun r_10 σ_9 H locs hw h => ?_)
  refine k_i h (r_S (As := [.int (iv r_8), .int (iv r_10)]) (rest := [.int (iv r_6)]) X h (c_X12_apart l D ct ad L φ N0 σ_9 r_8 r_10 _ hw) rfl rfl ⟨Nat.le_of_ble_eq_true rfl, Nat.le_of_ble_eq_true rfl⟩ kw_2161 kw_2162 kw_129 kw_2163 pd_X12_apart rfl hl.1 rfl (Nat.le_of_ble_eq_true rfl) ⟨Nat.le_of_ble_eq_true rfl, Nat.le_of_ble_eq_true rfl⟩ dX12_areBeside_19) (fun r_12 σ_11 H locs hw h => ?_)
  refine j_iadd X dX12_areBeside_22 ?_
  refine j_iconst X dX12_areBeside_23 ?_
  obtain ⟨g_13, hwt, hwf⟩ := hw
  refine j_cmp_ne (tgt := 31) X g_13 ⟨by decide, by decide⟩ dX12_areBeside_24 (by decide) (fun c_14 => ?_) (fun c_14 => ?_)
  · have hw := hwt c_14
    refine j_iconst X dX12_areBeside_31 ?_
    exact k_ir X rfl h hw dX12_areBeside_32
  · have hw := hwf c_14
    refine j_iconst X dX12_areBeside_27 ?_
    refine lv_goto (tgt := 32) X.1 X.2.1 dX12_areBeside_28 (by decide) ?_
    exact k_ir X rfl h hw dX12_areBeside_32
end
section
variable {p : Program} {l : Launch} {e : Env} {s : State} {m : MethodId} {args : Array Value} {below : List Frame} {meth : Method} {c : Code} {D : va_G} {ct : Nat → ClassId} {ad : Nat → Nat → Nat} {L : List (Nat × Nat)} {φ : Nat → Nat → Nat → Bool} {N0 : Nat}
variable {Q : Int → St → Prop}
theorem pd_X12_stemAt : yX12_stemAt.cls ≠ "java/lang/invoke/MethodHandle" ∧ yX12_stemAt.cls ≠ "java/lang/invoke/VarHandle" ∧ (parseMethodDescriptor yX12_stemAt.desc).map (fun d => d.parameters.length) = some 3 := by decide +kernel
set_option maxRecDepth 100000 in
set_option maxHeartbeats 4000000 in
theorem c_X12_stemAt (l : Launch) (D : va_G) (ct : Nat → ClassId) (ad : Nat → Nat → Nat) (L : List (Nat × Nat)) (φ : Nat → Nat → Nat → Bool) (N0 : Nat) (σ : St) (x0 : Int) (x1 : Int) (x2 : Int) (Q : Int → St → Prop) (hw : wp_X12_stemAt σ x0 x1 x2 Q) : Met l yX12_stemAt (.code yX12_stemAt cX12_stemAt 3 (some .int) :: gw) ({ frames := 0, cells := 0, slots := 0, locals := 0 } : Room) (Pm D ct ad L φ N0 σ [.int (iv x0), .int (iv x1), .int (iv x2)]) (Qi D ct ad L φ N0 Q) 0 0 (AA N0) := by
  refine m_of (by decide) (fun p e s m below meth c X hnm h => ?_)
  have hF := X.2.2.2.2.2.2.2.2.1
  have hl := lv_entry ([.int (iv x0), .int (iv x1), .int (iv x2)]) (n := 3) (Nat.le_of_ble_eq_true rfl)
  rw [lg_entry_eq]
  generalize (lg_sl ([.int (iv x0), .int (iv x1), .int (iv x2)]) ++ List.replicate (3 - (lg_sl ([.int (iv x0), .int (iv x1), .int (iv x2)])).length) Slot.unset).toArray = ls at hl ⊢
  have hl : lv_has ls 3 [(0, .int (iv x0)), (1, .int (iv x1)), (2, .int (iv x2))] := hl
  have h : Hs D ct ad L φ N0 s.heap σ s.heap [] := h
  unfold wp_X12_stemAt at hw
  refine j_bipush X dX12_stemAt_0 (by decide) ?_
  refine lv_iload_n X.1 X.2.1 dX12_stemAt_2 rfl (lv_at hl 0 rfl) ?_
  refine j_imul X dX12_stemAt_3 ?_
  refine j_iconst X dX12_stemAt_4 ?_
  refine lv_iload_n X.1 X.2.1 dX12_stemAt_5 rfl (lv_at hl 1 rfl) ?_
  refine j_imul X dX12_stemAt_6 ?_
  refine j_iadd X dX12_stemAt_7 ?_
  refine lv_iload_n X.1 X.2.1 dX12_stemAt_8 rfl (lv_at hl 2 rfl) ?_
  refine j_iadd X dX12_stemAt_9 ?_
  exact k_ir X rfl h hw dX12_stemAt_10
end
section
variable {p : Program} {l : Launch} {e : Env} {s : State} {m : MethodId} {args : Array Value} {below : List Frame} {meth : Method} {c : Code} {D : va_G} {ct : Nat → ClassId} {ad : Nat → Nat → Nat} {L : List (Nat × Nat)} {φ : Nat → Nat → Nat → Bool} {N0 : Nat}
variable {Q : Int → St → Prop}
theorem pd_X12_isStem : yX12_isStem.cls ≠ "java/lang/invoke/MethodHandle" ∧ yX12_isStem.cls ≠ "java/lang/invoke/VarHandle" ∧ (parseMethodDescriptor yX12_isStem.desc).map (fun d => d.parameters.length) = some 2 := by decide +kernel
set_option maxRecDepth 100000 in
set_option maxHeartbeats 4000000 in
theorem c_X12_isStem (l : Launch) (D : va_G) (ct : Nat → ClassId) (ad : Nat → Nat → Nat) (L : List (Nat × Nat)) (φ : Nat → Nat → Nat → Bool) (N0 : Nat) (σ : St) (x0 : Int) (x1 : Int) (Q : Int → St → Prop) (hw : wp_X12_isStem σ x0 x1 Q) : Met l yX12_isStem (.code yX12_isStem cX12_isStem 2 (some .boolean) :: gw) ({ frames := 1, cells := 0, slots := 0, locals := 22 } : Room) (Pm D ct ad L φ N0 σ [.int (iv x0), .int (iv x1)]) (Qi D ct ad L φ N0 Q) 0 0 (AA N0) := by
  refine m_of (by decide) (fun p e s m below meth c X hnm h => ?_)
  have hF := X.2.2.2.2.2.2.2.2.1
  have hl := lv_entry ([.int (iv x0), .int (iv x1)]) (n := 2) (Nat.le_of_ble_eq_true rfl)
  rw [lg_entry_eq]
  generalize (lg_sl ([.int (iv x0), .int (iv x1)]) ++ List.replicate (2 - (lg_sl ([.int (iv x0), .int (iv x1)])).length) Slot.unset).toArray = ls at hl ⊢
  have hl : lv_has ls 2 [(0, .int (iv x0)), (1, .int (iv x1))] := hl
  have h : Hs D ct ad L φ N0 s.heap σ s.heap [] := h
  unfold wp_X12_isStem at hw
  refine lv_iload_n X.1 X.2.1 dX12_isStem_0 rfl (lv_at hl 0 rfl) ?_
  refine j_iconst X dX12_isStem_1 ?_
  refine j_iconst X dX12_isStem_2 ?_
  refine k_i h (r_S (As := [.int (iv x0), .int (iv 0), .int (iv 3)]) (rest := []) X h (c_X12_within l D ct ad L φ N0 σ x0 0 3 _ hw) rfl rfl ⟨Nat.le_of_ble_eq_true rfl, Nat.le_of_ble_eq_true rfl⟩ kw_1959 kw_1960 kw_129 kw_1961 pd_X12_within rfl hl.1 rfl (Nat.le_of_ble_eq_true rfl) ⟨Nat.le_of_ble_eq_true rfl, Nat.le_of_ble_eq_true rfl⟩ dX12_isStem_3) (fun r_2 σ_1 H locs hw h => ?_)
  obtain ⟨g_3, hwt, hwf⟩ := hw
  refine j_if_eq (tgt := 22) X g_3 dX12_isStem_6 (by decide) (fun c_8 => ?_) (fun c_8 => ?_)
  · have hw := hwt c_8
    refine j_iconst X dX12_isStem_22 ?_
    exact k_ir X rfl h hw dX12_isStem_23
  · have hw := hwf c_8
    refine lv_iload_n X.1 X.2.1 dX12_isStem_9 rfl (lv_at hl 1 rfl) ?_
    refine j_iconst X dX12_isStem_10 ?_
    refine j_iconst X dX12_isStem_11 ?_
    refine k_i h (r_S (As := [.int (iv x1), .int (iv 0), .int (iv 3)]) (rest := []) X h (c_X12_within l D ct ad L φ N0 σ_1 x1 0 3 _ hw) rfl rfl ⟨Nat.le_of_ble_eq_true rfl, Nat.le_of_ble_eq_true rfl⟩ kw_1959 kw_1960 kw_129 kw_1961 pd_X12_within rfl hl.1 rfl (Nat.le_of_ble_eq_true rfl) ⟨Nat.le_of_ble_eq_true rfl, Nat.le_of_ble_eq_true rfl⟩ dX12_isStem_12) (fun r_5 σ_4 H locs hw h => ?_)
    obtain ⟨g_6, hwt, hwf⟩ := hw
    refine j_if_eq (tgt := 22) X g_6 dX12_isStem_15 (by decide) (fun c_7 => ?_) (fun c_7 => ?_)
    · have hw := hwt c_7
      refine j_iconst X dX12_isStem_22 ?_
      exact k_ir X rfl h hw dX12_isStem_23
    · have hw := hwf c_7
      refine j_iconst X dX12_isStem_18 ?_
      refine lv_goto (tgt := 23) X.1 X.2.1 dX12_isStem_19 (by decide) ?_
      exact k_ir X rfl h hw dX12_isStem_23
end
section
variable {p : Program} {l : Launch} {e : Env} {s : State} {m : MethodId} {args : Array Value} {below : List Frame} {meth : Method} {c : Code} {D : va_G} {ct : Nat → ClassId} {ad : Nat → Nat → Nat} {L : List (Nat × Nat)} {φ : Nat → Nat → Nat → Bool} {N0 : Nat}
variable {Q : Int → St → Prop}
theorem pd_X12_cell : yX12_cell.cls ≠ "java/lang/invoke/MethodHandle" ∧ yX12_cell.cls ≠ "java/lang/invoke/VarHandle" ∧ (parseMethodDescriptor yX12_cell.desc).map (fun d => d.parameters.length) = some 2 := by decide +kernel
set_option maxRecDepth 100000 in
set_option maxHeartbeats 4000000 in
theorem c_X12_cell (l : Launch) (D : va_G) (ct : Nat → ClassId) (ad : Nat → Nat → Nat) (L : List (Nat × Nat)) (φ : Nat → Nat → Nat → Bool) (N0 : Nat) (σ : St) (x1 : Int) (x2 : Int) (Q : Int → St → Prop) (hw : wp_X12_cell σ x1 x2 Q) : Met l yX12_cell (.code yX12_cell cX12_cell 3 (some .boolean) :: gw) ({ frames := 2, cells := 0, slots := 0, locals := 42 } : Room) (Pm D ct ad L φ N0 σ [.ref (ad 12 0), .int (iv x1), .int (iv x2)]) (Qi D ct ad L φ N0 Q) 0 0 (AA N0) := by
  refine m_of (by decide) (fun p e s m below meth c X hnm h => ?_)
  have hF := X.2.2.2.2.2.2.2.2.1
  have hl := lv_entry ([.ref (ad 12 0), .int (iv x1), .int (iv x2)]) (n := 3) (Nat.le_of_ble_eq_true rfl)
  rw [lg_entry_eq]
  generalize (lg_sl ([.ref (ad 12 0), .int (iv x1), .int (iv x2)]) ++ List.replicate (3 - (lg_sl ([.ref (ad 12 0), .int (iv x1), .int (iv x2)])).length) Slot.unset).toArray = ls at hl ⊢
  have hl : lv_has ls 3 [(0, .ref (ad 12 0)), (1, .int (iv x1)), (2, .int (iv x2))] := hl
  have h : Hs D ct ad L φ N0 s.heap σ s.heap [] := h
  unfold wp_X12_cell at hw
  refine lv_aload_n X.1 X.2.1 dX12_cell_0 rfl (lv_at hl 0 rfl) ?_
  refine j_iconst X dX12_cell_1 ?_
  refine r_put (ci := 12) X inw_12 tyX12 tyX12_ok nmX12 h (hF.1 12 rfl).1 rfl rfl 0 (by decide) kw_1638 rfl rfl rfl (Nat.le_of_ble_eq_true rfl) rfl rfl dX12_cell_2 (fun H locs h => ?_)
  obtain ⟨σ_1, eσ_1⟩ : ∃ z : St, z = st σ 12 0 0 0 := ⟨_, rfl⟩
  rw [← eσ_1] at h
  have hw := hw σ_1 eσ_1
  refine lv_iload_n X.1 X.2.1 dX12_cell_5 rfl (lv_at hl 1 rfl) ?_
  refine k_i h (r_S (As := [.int (iv x1)]) (rest := []) X h (c_X12_isCell l D ct ad L φ N0 σ_1 x1 _ hw) rfl rfl ⟨Nat.le_of_ble_eq_true rfl, Nat.le_of_ble_eq_true rfl⟩ kw_1956 kw_1957 kw_129 kw_1958 pd_X12_isCell rfl hl.1 rfl (Nat.le_of_ble_eq_true rfl) ⟨Nat.le_of_ble_eq_true rfl, Nat.le_of_ble_eq_true rfl⟩ dX12_cell_6) (fun r_3 σ_2 H locs hw h => ?_)
  obtain ⟨g_4, hwt, hwf⟩ := hw
  refine j_if_eq (tgt := 22) X g_4 dX12_cell_9 (by decide) (fun c_12 => ?_) (fun c_12 => ?_)
  · have hw := hwt c_12
    refine j_iconst X dX12_cell_22 ?_
    exact k_ir X rfl h hw dX12_cell_23
  · have hw := hwf c_12
    refine lv_iload_n X.1 X.2.1 dX12_cell_12 rfl (lv_at hl 2 rfl) ?_
    refine j_iconst X dX12_cell_13 ?_
    refine j_bipush X dX12_cell_14 (by decide) ?_
    refine k_i h (r_S (As := [.int (iv x2), .int (iv 0), .int (iv 40)]) (rest := []) X h (c_X12_within l D ct ad L φ N0 σ_2 x2 0 40 _ hw) rfl rfl ⟨Nat.le_of_ble_eq_true rfl, Nat.le_of_ble_eq_true rfl⟩ kw_1959 kw_1960 kw_129 kw_1961 pd_X12_within rfl hl.1 rfl (Nat.le_of_ble_eq_true rfl) ⟨Nat.le_of_ble_eq_true rfl, Nat.le_of_ble_eq_true rfl⟩ dX12_cell_16) (fun r_6 σ_5 H locs hw h => ?_)
    obtain ⟨g_7, hwt, hwf⟩ := hw
    refine j_if_ne (tgt := 24) X g_7 dX12_cell_19 (by decide) (fun c_11 => ?_) (fun c_11 => ?_)
    · have hw := hwt c_11
      refine lv_aload_n X.1 X.2.1 dX12_cell_24 rfl (lv_at hl 0 rfl) ?_
      refine r_getR (ci := 12) X inw_12 h (hF.1 12 rfl).1 rfl rfl 2 (by decide) kw_1640 rfl ((hF.1 12 rfl).2 2) dX12_cell_25 ?_
      refine lv_iload_n X.1 X.2.1 dX12_cell_28 rfl (lv_at hl 1 rfl) ?_
      refine lv_iload_n X.1 X.2.1 dX12_cell_29 rfl (lv_at hl 2 rfl) ?_
      obtain ⟨g_8, g_9, hw⟩ := hw
      refine r_iast (n := 64) X h (hF.1 83 rfl).1 (fun _ => rfl) (by decide) g_8 g_9 rfl dX12_cell_30 (fun H locs h => ?_)
      obtain ⟨σ_10, eσ_10⟩ : ∃ z : St, z = st σ_5 83 0 (Int.toNat x1) x2 := ⟨_, rfl⟩
      rw [← eσ_10] at h
      have hw := hw σ_10 eσ_10
      refine j_iconst X dX12_cell_31 ?_
      exact k_ir X rfl h hw dX12_cell_32
    · have hw := hwf c_11
      refine j_iconst X dX12_cell_22 ?_
      exact k_ir X rfl h hw dX12_cell_23
end
section
variable {p : Program} {l : Launch} {e : Env} {s : State} {m : MethodId} {args : Array Value} {below : List Frame} {meth : Method} {c : Code} {D : va_G} {ct : Nat → ClassId} {ad : Nat → Nat → Nat} {L : List (Nat × Nat)} {φ : Nat → Nat → Nat → Bool} {N0 : Nat}
variable {Q : Int → St → Prop}
theorem pd_X12_stand : yX12_stand.cls ≠ "java/lang/invoke/MethodHandle" ∧ yX12_stand.cls ≠ "java/lang/invoke/VarHandle" ∧ (parseMethodDescriptor yX12_stand.desc).map (fun d => d.parameters.length) = some 4 := by decide +kernel
set_option maxRecDepth 100000 in
set_option maxHeartbeats 4000000 in
theorem c_X12_stand (l : Launch) (D : va_G) (ct : Nat → ClassId) (ad : Nat → Nat → Nat) (L : List (Nat × Nat)) (φ : Nat → Nat → Nat → Bool) (N0 : Nat) (σ : St) (x1 : Int) (x2 : Int) (x3 : Int) (x4 : Int) (Q : Int → St → Prop) (hw : wp_X12_stand σ x1 x2 x3 x4 Q) : Met l yX12_stand (.code yX12_stand cX12_stand 5 (some .boolean) :: gw) ({ frames := 2, cells := 0, slots := 0, locals := 43 } : Room) (Pm D ct ad L φ N0 σ [.ref (ad 12 0), .int (iv x1), .int (iv x2), .int (iv x3), .int (iv x4)]) (Qi D ct ad L φ N0 Q) 0 0 (AA N0) := by
  refine m_of (by decide) (fun p e s m below meth c X hnm h => ?_)
  have hF := X.2.2.2.2.2.2.2.2.1
  have hl := lv_entry ([.ref (ad 12 0), .int (iv x1), .int (iv x2), .int (iv x3), .int (iv x4)]) (n := 5) (Nat.le_of_ble_eq_true rfl)
  rw [lg_entry_eq]
  generalize (lg_sl ([.ref (ad 12 0), .int (iv x1), .int (iv x2), .int (iv x3), .int (iv x4)]) ++ List.replicate (5 - (lg_sl ([.ref (ad 12 0), .int (iv x1), .int (iv x2), .int (iv x3), .int (iv x4)])).length) Slot.unset).toArray = ls at hl ⊢
  have hl : lv_has ls 5 [(0, .ref (ad 12 0)), (1, .int (iv x1)), (2, .int (iv x2)), (3, .int (iv x3)), (4, .int (iv x4))] := hl
  have h : Hs D ct ad L φ N0 s.heap σ s.heap [] := h
  unfold wp_X12_stand at hw
  refine lv_aload_n X.1 X.2.1 dX12_stand_0 rfl (lv_at hl 0 rfl) ?_
  refine j_iconst X dX12_stand_1 ?_
  refine r_put (ci := 12) X inw_12 tyX12 tyX12_ok nmX12 h (hF.1 12 rfl).1 rfl rfl 0 (by decide) kw_1638 rfl rfl rfl (Nat.le_of_ble_eq_true rfl) rfl rfl dX12_stand_2 (fun H locs h => ?_)
  obtain ⟨σ_1, eσ_1⟩ : ∃ z : St, z = st σ 12 0 0 0 := ⟨_, rfl⟩
  rw [← eσ_1] at h
  have hw := hw σ_1 eσ_1
  refine lv_iload_n X.1 X.2.1 dX12_stand_5 rfl (lv_at hl 1 rfl) ?_
  refine k_i h (r_S (As := [.int (iv x1)]) (rest := []) X h (c_X12_isCell l D ct ad L φ N0 σ_1 x1 _ hw) rfl rfl ⟨Nat.le_of_ble_eq_true rfl, Nat.le_of_ble_eq_true rfl⟩ kw_1956 kw_1957 kw_129 kw_1958 pd_X12_isCell rfl hl.1 rfl (Nat.le_of_ble_eq_true rfl) ⟨Nat.le_of_ble_eq_true rfl, Nat.le_of_ble_eq_true rfl⟩ dX12_stand_6) (fun r_3 σ_2 H locs hw h => ?_)
  obtain ⟨g_4, hwt, hwf⟩ := hw
  refine j_if_eq (tgt := 32) X g_4 dX12_stand_9 (by decide) (fun c_18 => ?_) (fun c_18 => ?_)
  · have hw := hwt c_18
    refine j_iconst X dX12_stand_32 ?_
    exact k_ir X rfl h hw dX12_stand_33
  · have hw := hwf c_18
    refine lv_iload_n X.1 X.2.1 dX12_stand_12 rfl (lv_at hl 2 rfl) ?_
    refine lv_iload_n X.1 X.2.1 dX12_stand_13 rfl (lv_at hl 3 rfl) ?_
    refine k_i h (r_S (As := [.int (iv x2), .int (iv x3)]) (rest := []) X h (c_X12_isStem l D ct ad L φ N0 σ_2 x2 x3 _ hw) rfl rfl ⟨Nat.le_of_ble_eq_true rfl, Nat.le_of_ble_eq_true rfl⟩ kw_1966 kw_1967 kw_129 kw_1968 pd_X12_isStem rfl hl.1 rfl (Nat.le_of_ble_eq_true rfl) ⟨Nat.le_of_ble_eq_true rfl, Nat.le_of_ble_eq_true rfl⟩ dX12_stand_14) (fun r_6 σ_5 H locs hw h => ?_)
    obtain ⟨g_7, hwt, hwf⟩ := hw
    refine j_if_eq (tgt := 32) X g_7 dX12_stand_17 (by decide) (fun c_17 => ?_) (fun c_17 => ?_)
    · have hw := hwt c_17
      refine j_iconst X dX12_stand_32 ?_
      exact k_ir X rfl h hw dX12_stand_33
    · have hw := hwf c_17
      refine lv_iload X.1 X.2.1 dX12_stand_20 (lv_at hl 4 rfl) ?_
      refine j_iconst X dX12_stand_22 ?_
      refine j_sipush X dX12_stand_23 (by decide) ?_
      refine k_i h (r_S (As := [.int (iv x4), .int (iv 0), .int (iv 200)]) (rest := []) X h (c_X12_within l D ct ad L φ N0 σ_5 x4 0 200 _ hw) rfl rfl ⟨Nat.le_of_ble_eq_true rfl, Nat.le_of_ble_eq_true rfl⟩ kw_1959 kw_1960 kw_129 kw_1961 pd_X12_within rfl hl.1 rfl (Nat.le_of_ble_eq_true rfl) ⟨Nat.le_of_ble_eq_true rfl, Nat.le_of_ble_eq_true rfl⟩ dX12_stand_26) (fun r_9 σ_8 H locs hw h => ?_)
      obtain ⟨g_10, hwt, hwf⟩ := hw
      refine j_if_ne (tgt := 34) X g_10 dX12_stand_29 (by decide) (fun c_16 => ?_) (fun c_16 => ?_)
      · have hw := hwt c_16
        refine lv_aload_n X.1 X.2.1 dX12_stand_34 rfl (lv_at hl 0 rfl) ?_
        refine r_getR (ci := 12) X inw_12 h (hF.1 12 rfl).1 rfl rfl 4 (by decide) kw_1642 rfl ((hF.1 12 rfl).2 4) dX12_stand_35 ?_
        refine lv_iload_n X.1 X.2.1 dX12_stand_38 rfl (lv_at hl 1 rfl) ?_
        refine lv_iload_n X.1 X.2.1 dX12_stand_39 rfl (lv_at hl 2 rfl) ?_
        refine lv_iload_n X.1 X.2.1 dX12_stand_40 rfl (lv_at hl 3 rfl) ?_
        refine k_i h (r_S (As := [.int (iv x1), .int (iv x2), .int (iv x3)]) (rest := [.ref (ad 85 0)]) X h (c_X12_stemAt l D ct ad L φ N0 σ_8 x1 x2 x3 _ hw) rfl rfl ⟨Nat.le_of_ble_eq_true rfl, Nat.le_of_ble_eq_true rfl⟩ kw_1969 kw_1970 kw_129 kw_1971 pd_X12_stemAt rfl hl.1 rfl (Nat.le_of_ble_eq_true rfl) ⟨Nat.le_of_ble_eq_true rfl, Nat.le_of_ble_eq_true rfl⟩ dX12_stand_41) (fun r_12 σ_11 H locs hw h => ?_)
        refine lv_iload X.1 X.2.1 dX12_stand_44 (lv_at hl 4 rfl) ?_
        obtain ⟨g_13, g_14, hw⟩ := hw
        refine r_iast (n := 1024) X h (hF.1 85 rfl).1 (fun _ => rfl) (by decide) g_13 g_14 rfl dX12_stand_46 (fun H locs h => ?_)
        obtain ⟨σ_15, eσ_15⟩ : ∃ z : St, z = st σ_11 85 0 (Int.toNat r_12) x4 := ⟨_, rfl⟩
        rw [← eσ_15] at h
        have hw := hw σ_15 eσ_15
        refine j_iconst X dX12_stand_47 ?_
        exact k_ir X rfl h hw dX12_stand_48
      · have hw := hwf c_16
        refine j_iconst X dX12_stand_32 ?_
        exact k_ir X rfl h hw dX12_stand_33
end
section
variable {p : Program} {l : Launch} {e : Env} {s : State} {m : MethodId} {args : Array Value} {below : List Frame} {meth : Method} {c : Code} {D : va_G} {ct : Nat → ClassId} {ad : Nat → Nat → Nat} {L : List (Nat × Nat)} {φ : Nat → Nat → Nat → Bool} {N0 : Nat}
variable {Q : Int → St → Prop}
theorem pd_X12_sort : yX12_sort.cls ≠ "java/lang/invoke/MethodHandle" ∧ yX12_sort.cls ≠ "java/lang/invoke/VarHandle" ∧ (parseMethodDescriptor yX12_sort.desc).map (fun d => d.parameters.length) = some 3 := by decide +kernel
set_option maxRecDepth 100000 in
set_option maxHeartbeats 4000000 in
theorem c_X12_sort (l : Launch) (D : va_G) (ct : Nat → ClassId) (ad : Nat → Nat → Nat) (L : List (Nat × Nat)) (φ : Nat → Nat → Nat → Bool) (N0 : Nat) (σ : St) (x1 : Int) (x2 : Int) (x3 : Int) (Q : Int → St → Prop) (hw : wp_X12_sort σ x1 x2 x3 Q) : Met l yX12_sort (.code yX12_sort cX12_sort 4 (some .boolean) :: gw) ({ frames := 1, cells := 0, slots := 0, locals := 22 } : Room) (Pm D ct ad L φ N0 σ [.ref (ad 12 0), .int (iv x1), .int (iv x2), .int (iv x3)]) (Qi D ct ad L φ N0 Q) 0 0 (AA N0) := by
  refine m_of (by decide) (fun p e s m below meth c X hnm h => ?_)
  have hF := X.2.2.2.2.2.2.2.2.1
  have hl := lv_entry ([.ref (ad 12 0), .int (iv x1), .int (iv x2), .int (iv x3)]) (n := 4) (Nat.le_of_ble_eq_true rfl)
  rw [lg_entry_eq]
  generalize (lg_sl ([.ref (ad 12 0), .int (iv x1), .int (iv x2), .int (iv x3)]) ++ List.replicate (4 - (lg_sl ([.ref (ad 12 0), .int (iv x1), .int (iv x2), .int (iv x3)])).length) Slot.unset).toArray = ls at hl ⊢
  have hl : lv_has ls 4 [(0, .ref (ad 12 0)), (1, .int (iv x1)), (2, .int (iv x2)), (3, .int (iv x3))] := hl
  have h : Hs D ct ad L φ N0 s.heap σ s.heap [] := h
  unfold wp_X12_sort at hw
  refine lv_aload_n X.1 X.2.1 dX12_sort_0 rfl (lv_at hl 0 rfl) ?_
  refine j_iconst X dX12_sort_1 ?_
  refine r_put (ci := 12) X inw_12 tyX12 tyX12_ok nmX12 h (hF.1 12 rfl).1 rfl rfl 0 (by decide) kw_1638 rfl rfl rfl (Nat.le_of_ble_eq_true rfl) rfl rfl dX12_sort_2 (fun H locs h => ?_)
  obtain ⟨σ_1, eσ_1⟩ : ∃ z : St, z = st σ 12 0 0 0 := ⟨_, rfl⟩
  rw [← eσ_1] at h
  have hw := hw σ_1 eσ_1
  refine lv_iload_n X.1 X.2.1 dX12_sort_5 rfl (lv_at hl 1 rfl) ?_
  refine j_iconst X dX12_sort_6 ?_
  refine j_iconst X dX12_sort_7 ?_
  refine k_i h (r_S (As := [.int (iv x1), .int (iv 0), .int (iv 3)]) (rest := []) X h (c_X12_within l D ct ad L φ N0 σ_1 x1 0 3 _ hw) rfl rfl ⟨Nat.le_of_ble_eq_true rfl, Nat.le_of_ble_eq_true rfl⟩ kw_1959 kw_1960 kw_129 kw_1961 pd_X12_within rfl hl.1 rfl (Nat.le_of_ble_eq_true rfl) ⟨Nat.le_of_ble_eq_true rfl, Nat.le_of_ble_eq_true rfl⟩ dX12_sort_8) (fun r_3 σ_2 H locs hw h => ?_)
  obtain ⟨g_4, hwt, hwf⟩ := hw
  refine j_if_eq (tgt := 33) X g_4 dX12_sort_11 (by decide) (fun c_19 => ?_) (fun c_19 => ?_)
  · have hw := hwt c_19
    refine j_iconst X dX12_sort_33 ?_
    exact k_ir X rfl h hw dX12_sort_34
  · have hw := hwf c_19
    refine lv_iload_n X.1 X.2.1 dX12_sort_14 rfl (lv_at hl 2 rfl) ?_
    refine j_iconst X dX12_sort_15 ?_
    refine j_bipush X dX12_sort_16 (by decide) ?_
    refine k_i h (r_S (As := [.int (iv x2), .int (iv 0), .int (iv 100)]) (rest := []) X h (c_X12_within l D ct ad L φ N0 σ_2 x2 0 100 _ hw) rfl rfl ⟨Nat.le_of_ble_eq_true rfl, Nat.le_of_ble_eq_true rfl⟩ kw_1959 kw_1960 kw_129 kw_1961 pd_X12_within rfl hl.1 rfl (Nat.le_of_ble_eq_true rfl) ⟨Nat.le_of_ble_eq_true rfl, Nat.le_of_ble_eq_true rfl⟩ dX12_sort_18) (fun r_6 σ_5 H locs hw h => ?_)
    obtain ⟨g_7, hwt, hwf⟩ := hw
    refine j_if_eq (tgt := 33) X g_7 dX12_sort_21 (by decide) (fun c_18 => ?_) (fun c_18 => ?_)
    · have hw := hwt c_18
      refine j_iconst X dX12_sort_33 ?_
      exact k_ir X rfl h hw dX12_sort_34
    · have hw := hwf c_18
      refine lv_iload_n X.1 X.2.1 dX12_sort_24 rfl (lv_at hl 3 rfl) ?_
      refine j_iconst X dX12_sort_25 ?_
      refine j_iconst X dX12_sort_26 ?_
      refine k_i h (r_S (As := [.int (iv x3), .int (iv 1), .int (iv 3)]) (rest := []) X h (c_X12_within l D ct ad L φ N0 σ_5 x3 1 3 _ hw) rfl rfl ⟨Nat.le_of_ble_eq_true rfl, Nat.le_of_ble_eq_true rfl⟩ kw_1959 kw_1960 kw_129 kw_1961 pd_X12_within rfl hl.1 rfl (Nat.le_of_ble_eq_true rfl) ⟨Nat.le_of_ble_eq_true rfl, Nat.le_of_ble_eq_true rfl⟩ dX12_sort_27) (fun r_9 σ_8 H locs hw h => ?_)
      obtain ⟨g_10, hwt, hwf⟩ := hw
      refine j_if_ne (tgt := 35) X g_10 dX12_sort_30 (by decide) (fun c_17 => ?_) (fun c_17 => ?_)
      · have hw := hwt c_17
        refine lv_aload_n X.1 X.2.1 dX12_sort_35 rfl (lv_at hl 0 rfl) ?_
        refine r_getR (ci := 12) X inw_12 h (hF.1 12 rfl).1 rfl rfl 5 (by decide) kw_1643 rfl ((hF.1 12 rfl).2 5) dX12_sort_36 ?_
        refine lv_iload_n X.1 X.2.1 dX12_sort_39 rfl (lv_at hl 1 rfl) ?_
        refine lv_iload_n X.1 X.2.1 dX12_sort_40 rfl (lv_at hl 2 rfl) ?_
        obtain ⟨g_11, g_12, hw⟩ := hw
        refine r_iast (n := 4) X h (hF.1 86 rfl).1 (fun _ => rfl) (by decide) g_11 g_12 rfl dX12_sort_41 (fun H locs h => ?_)
        obtain ⟨σ_13, eσ_13⟩ : ∃ z : St, z = st σ_8 86 0 (Int.toNat x1) x2 := ⟨_, rfl⟩
        rw [← eσ_13] at h
        have hw := hw σ_13 eσ_13
        refine lv_aload_n X.1 X.2.1 dX12_sort_42 rfl (lv_at hl 0 rfl) ?_
        refine r_getR (ci := 12) X inw_12 h (hF.1 12 rfl).1 rfl rfl 6 (by decide) kw_1644 rfl ((hF.1 12 rfl).2 6) dX12_sort_43 ?_
        refine lv_iload_n X.1 X.2.1 dX12_sort_46 rfl (lv_at hl 1 rfl) ?_
        refine lv_iload_n X.1 X.2.1 dX12_sort_47 rfl (lv_at hl 3 rfl) ?_
        obtain ⟨g_14, g_15, hw⟩ := hw
        refine r_iast (n := 4) X h (hF.1 87 rfl).1 (fun _ => rfl) (by decide) g_14 g_15 rfl dX12_sort_48 (fun H locs h => ?_)
        obtain ⟨σ_16, eσ_16⟩ : ∃ z : St, z = st σ_13 87 0 (Int.toNat x1) x3 := ⟨_, rfl⟩
        rw [← eσ_16] at h
        have hw := hw σ_16 eσ_16
        refine j_iconst X dX12_sort_49 ?_
        exact k_ir X rfl h hw dX12_sort_50
      · have hw := hwf c_17
        refine j_iconst X dX12_sort_33 ?_
        exact k_ir X rfl h hw dX12_sort_34
end
section
variable {p : Program} {l : Launch} {e : Env} {s : State} {m : MethodId} {args : Array Value} {below : List Frame} {meth : Method} {c : Code} {D : va_G} {ct : Nat → ClassId} {ad : Nat → Nat → Nat} {L : List (Nat × Nat)} {φ : Nat → Nat → Nat → Bool} {N0 : Nat}
variable {Q : Int → St → Prop}
theorem pd_X12_mill : yX12_mill.cls ≠ "java/lang/invoke/MethodHandle" ∧ yX12_mill.cls ≠ "java/lang/invoke/VarHandle" ∧ (parseMethodDescriptor yX12_mill.desc).map (fun d => d.parameters.length) = some 1 := by decide +kernel
set_option maxRecDepth 100000 in
set_option maxHeartbeats 4000000 in
theorem c_X12_mill (l : Launch) (D : va_G) (ct : Nat → ClassId) (ad : Nat → Nat → Nat) (L : List (Nat × Nat)) (φ : Nat → Nat → Nat → Bool) (N0 : Nat) (σ : St) (x1 : Int) (Q : Int → St → Prop) (hw : wp_X12_mill σ x1 Q) : Met l yX12_mill (.code yX12_mill cX12_mill 2 (some .boolean) :: gw) ({ frames := 2, cells := 0, slots := 0, locals := 42 } : Room) (Pm D ct ad L φ N0 σ [.ref (ad 12 0), .int (iv x1)]) (Qi D ct ad L φ N0 Q) 0 0 (AA N0) := by
  refine m_of (by decide) (fun p e s m below meth c X hnm h => ?_)
  have hF := X.2.2.2.2.2.2.2.2.1
  have hl := lv_entry ([.ref (ad 12 0), .int (iv x1)]) (n := 2) (Nat.le_of_ble_eq_true rfl)
  rw [lg_entry_eq]
  generalize (lg_sl ([.ref (ad 12 0), .int (iv x1)]) ++ List.replicate (2 - (lg_sl ([.ref (ad 12 0), .int (iv x1)])).length) Slot.unset).toArray = ls at hl ⊢
  have hl : lv_has ls 2 [(0, .ref (ad 12 0)), (1, .int (iv x1))] := hl
  have h : Hs D ct ad L φ N0 s.heap σ s.heap [] := h
  unfold wp_X12_mill at hw
  refine lv_aload_n X.1 X.2.1 dX12_mill_0 rfl (lv_at hl 0 rfl) ?_
  refine j_iconst X dX12_mill_1 ?_
  refine r_put (ci := 12) X inw_12 tyX12 tyX12_ok nmX12 h (hF.1 12 rfl).1 rfl rfl 0 (by decide) kw_1638 rfl rfl rfl (Nat.le_of_ble_eq_true rfl) rfl rfl dX12_mill_2 (fun H locs h => ?_)
  obtain ⟨σ_1, eσ_1⟩ : ∃ z : St, z = st σ 12 0 0 0 := ⟨_, rfl⟩
  rw [← eσ_1] at h
  have hw := hw σ_1 eσ_1
  refine lv_iload_n X.1 X.2.1 dX12_mill_5 rfl (lv_at hl 1 rfl) ?_
  refine k_i h (r_S (As := [.int (iv x1)]) (rest := []) X h (c_X12_isCell l D ct ad L φ N0 σ_1 x1 _ hw) rfl rfl ⟨Nat.le_of_ble_eq_true rfl, Nat.le_of_ble_eq_true rfl⟩ kw_1956 kw_1957 kw_129 kw_1958 pd_X12_isCell rfl hl.1 rfl (Nat.le_of_ble_eq_true rfl) ⟨Nat.le_of_ble_eq_true rfl, Nat.le_of_ble_eq_true rfl⟩ dX12_mill_6) (fun r_3 σ_2 H locs hw h => ?_)
  obtain ⟨g_4, hwt, hwf⟩ := hw
  refine j_if_eq (tgt := 19) X g_4 dX12_mill_9 (by decide) (fun c_8 => ?_) (fun c_8 => ?_)
  · have hw := hwt c_8
    refine j_iconst X dX12_mill_19 ?_
    exact k_ir X rfl h hw dX12_mill_20
  · have hw := hwf c_8
    refine lv_aload_n X.1 X.2.1 dX12_mill_12 rfl (lv_at hl 0 rfl) ?_
    refine r_get (ci := 12) X inw_12 h (hF.1 12 rfl).1 rfl rfl 17 (by decide) kw_1655 rfl dX12_mill_13 ?_
    obtain ⟨g_5, hwt, hwf⟩ := hw
    refine j_if_le (tgt := 21) X g_5 dX12_mill_16 (by decide) (fun c_7 => ?_) (fun c_7 => ?_)
    · have hw := hwt c_7
      refine lv_aload_n X.1 X.2.1 dX12_mill_21 rfl (lv_at hl 0 rfl) ?_
      refine lv_iload_n X.1 X.2.1 dX12_mill_22 rfl (lv_at hl 1 rfl) ?_
      refine r_put (ci := 12) X inw_12 tyX12 tyX12_ok nmX12 h (hF.1 12 rfl).1 rfl rfl 7 (by decide) kw_1645 rfl rfl rfl (Nat.le_of_ble_eq_true rfl) rfl rfl dX12_mill_23 (fun H locs h => ?_)
      obtain ⟨σ_6, eσ_6⟩ : ∃ z : St, z = st σ_2 12 0 7 x1 := ⟨_, rfl⟩
      rw [← eσ_6] at h
      have hw := hw σ_6 eσ_6
      refine j_iconst X dX12_mill_26 ?_
      exact k_ir X rfl h hw dX12_mill_27
    · have hw := hwf c_7
      refine j_iconst X dX12_mill_19 ?_
      exact k_ir X rfl h hw dX12_mill_20
end
section
variable {p : Program} {l : Launch} {e : Env} {s : State} {m : MethodId} {args : Array Value} {below : List Frame} {meth : Method} {c : Code} {D : va_G} {ct : Nat → ClassId} {ad : Nat → Nat → Nat} {L : List (Nat × Nat)} {φ : Nat → Nat → Nat → Bool} {N0 : Nat}
variable {Q : Int → St → Prop}
theorem pd_X12_farOf : yX12_farOf.cls ≠ "java/lang/invoke/MethodHandle" ∧ yX12_farOf.cls ≠ "java/lang/invoke/VarHandle" ∧ (parseMethodDescriptor yX12_farOf.desc).map (fun d => d.parameters.length) = some 1 := by decide +kernel
set_option maxRecDepth 100000 in
set_option maxHeartbeats 4000000 in
theorem c_X12_farOf (l : Launch) (D : va_G) (ct : Nat → ClassId) (ad : Nat → Nat → Nat) (L : List (Nat × Nat)) (φ : Nat → Nat → Nat → Bool) (N0 : Nat) (σ : St) (x1 : Int) (Q : Int → St → Prop) (hw : wp_X12_farOf σ x1 Q) : Met l yX12_farOf (.code yX12_farOf cX12_farOf 2 (some .int) :: gw) ({ frames := 1, cells := 0, slots := 0, locals := 21 } : Room) (Pm D ct ad L φ N0 σ [.ref (ad 12 0), .int (iv x1)]) (Qi D ct ad L φ N0 Q) 0 0 (AA N0) := by
  refine m_of (by decide) (fun p e s m below meth c X hnm h => ?_)
  have hF := X.2.2.2.2.2.2.2.2.1
  have hl := lv_entry ([.ref (ad 12 0), .int (iv x1)]) (n := 2) (Nat.le_of_ble_eq_true rfl)
  rw [lg_entry_eq]
  generalize (lg_sl ([.ref (ad 12 0), .int (iv x1)]) ++ List.replicate (2 - (lg_sl ([.ref (ad 12 0), .int (iv x1)])).length) Slot.unset).toArray = ls at hl ⊢
  have hl : lv_has ls 2 [(0, .ref (ad 12 0)), (1, .int (iv x1))] := hl
  have h : Hs D ct ad L φ N0 s.heap σ s.heap [] := h
  unfold wp_X12_farOf at hw
  refine lv_iload_n X.1 X.2.1 dX12_farOf_0 rfl (lv_at hl 1 rfl) ?_
  refine k_i h (r_S (As := [.int (iv x1)]) (rest := []) X h (c_X12_xOf l D ct ad L φ N0 σ x1 _ hw) rfl rfl ⟨Nat.le_of_ble_eq_true rfl, Nat.le_of_ble_eq_true rfl⟩ kw_2158 kw_2159 kw_129 kw_2160 pd_X12_xOf rfl hl.1 rfl (Nat.le_of_ble_eq_true rfl) ⟨Nat.le_of_ble_eq_true rfl, Nat.le_of_ble_eq_true rfl⟩ dX12_farOf_1) (fun r_2 σ_1 H locs hw h => ?_)
  refine lv_aload_n X.1 X.2.1 dX12_farOf_4 rfl (lv_at hl 0 rfl) ?_
  refine r_get (ci := 12) X inw_12 h (hF.1 12 rfl).1 rfl rfl 7 (by decide) kw_1645 rfl dX12_farOf_5 ?_
  refine k_i h (r_S (As := [.int (iv (σ_1 12 0 7))]) (rest := [.int (iv r_2)]) X h (c_X12_xOf l D ct ad L φ N0 σ_1 (σ_1 12 0 7) _ hw) rfl rfl ⟨Nat.le_of_ble_eq_true rfl, Nat.le_of_ble_eq_true rfl⟩ kw_2158 kw_2159 kw_129 kw_2160 pd_X12_xOf rfl hl.1 rfl (Nat.le_of_ble_eq_true rfl) ⟨Nat.le_of_ble_eq_true rfl, Nat.le_of_ble_eq_true rfl⟩ dX12_farOf_8) (fun r_4 σ_3 H locs hw h => ?_)
  refine k_i h (r_S (As := [.int (iv r_2), .int (iv r_4)]) (rest := []) X h (c_X12_apart l D ct ad L φ N0 σ_3 r_2 r_4 _ hw) rfl rfl ⟨Nat.le_of_ble_eq_true rfl, Nat.le_of_ble_eq_true rfl⟩ kw_2161 kw_2162 kw_129 kw_2163 pd_X12_apart rfl hl.1 rfl (Nat.le_of_ble_eq_true rfl) ⟨Nat.le_of_ble_eq_true rfl, Nat.le_of_ble_eq_true rfl⟩ dX12_farOf_11) (fun r_6 σ_5 H locs hw h => ?_)
  refine lv_iload_n X.1 X.2.1 dX12_farOf_14 rfl (lv_at hl 1 rfl) ?_
  refine k_i h (r_S (As := [.int (iv x1)]) (rest := [.int (iv r_6)]) X h (c_X12_yOf l D ct ad L φ N0 σ_5 x1 _ hw) rfl rfl ⟨Nat.le_of_ble_eq_true rfl, Nat.le_of_ble_eq_true rfl⟩ kw_2164 kw_2165 kw_129 kw_2166 pd_X12_yOf rfl hl.1 rfl (Nat.le_of_ble_eq_true rfl) ⟨Nat.le_of_ble_eq_true rfl, Nat.le_of_ble_eq_true rfl⟩ dX12_farOf_15) (fun r_8 σ_7 H locs hw h => ?_)
  refine lv_aload_n X.1 X.2.1 dX12_farOf_18 rfl (lv_at hl 0 rfl) ?_
  refine r_get (ci := 12) X inw_12 h (hF.1 12 rfl).1 rfl rfl 7 (by decide) kw_1645 rfl dX12_farOf_19 ?_
  refine k_i h (r_S (As := [.int (iv (σ_7 12 0 7))]) (rest := [.int (iv r_8), .int (iv r_6)]) X h (c_X12_yOf l D ct ad L φ N0 σ_7 (σ_7 12 0 7) _ hw) rfl rfl ⟨Nat.le_of_ble_eq_true rfl, Nat.le_of_ble_eq_true rfl⟩ kw_2164 kw_2165 kw_129 kw_2166 pd_X12_yOf rfl hl.1 rfl (Nat.le_of_ble_eq_true rfl) ⟨Nat.le_of_ble_eq_true rfl, Nat.le_of_ble_eq_true rfl⟩ dX12_farOf_22) (fun r_10 σ_9 H locs hw h => ?_)
  refine k_i h (r_S (As := [.int (iv r_8), .int (iv r_10)]) (rest := [.int (iv r_6)]) X h (c_X12_apart l D ct ad L φ N0 σ_9 r_8 r_10 _ hw) rfl rfl ⟨Nat.le_of_ble_eq_true rfl, Nat.le_of_ble_eq_true rfl⟩ kw_2161 kw_2162 kw_129 kw_2163 pd_X12_apart rfl hl.1 rfl (Nat.le_of_ble_eq_true rfl) ⟨Nat.le_of_ble_eq_true rfl, Nat.le_of_ble_eq_true rfl⟩ dX12_farOf_25) (fun r_12 σ_11 H locs hw h => ?_)
  refine j_iadd X dX12_farOf_28 ?_
  exact k_ir X rfl h hw dX12_farOf_29
end
section
variable {p : Program} {l : Launch} {e : Env} {s : State} {m : MethodId} {args : Array Value} {below : List Frame} {meth : Method} {c : Code} {D : va_G} {ct : Nat → ClassId} {ad : Nat → Nat → Nat} {L : List (Nat × Nat)} {φ : Nat → Nat → Nat → Bool} {N0 : Nat}
variable {Q : Int → St → Prop}
set_option maxRecDepth 100000 in
set_option maxHeartbeats 4000000 in
theorem lb_X12_stemsOf_7 (X : Cx p s m meth c args cX12_stemsOf 4 (some .int) RX12 D ct L φ N0) : ∀ (n : Nat) (σ : St) (x1 : Int) (x2 : Int) (x3 : Int) (H : Heap) (locs : List Loc) (ls : Array Slot), wp_X12_stemsOf_7 Q n σ x1 x2 x3 → Hs D ct ad L φ N0 s.heap σ H locs → lv_has ls 4 [(0, .ref (ad 12 0)), (1, .int (iv x1)), (2, .int (iv x2)), (3, .int (iv x3))] → W p l e ({ frames := 0, cells := 0, slots := 0, locals := 0 } : Room) s m args below meth c H locs 0 0 (MQ below (Qi D ct ad L φ N0 Q) args s 0 0 (AA N0)) (F0 m 7 ls []) := by
  have hF := X.2.2.2.2.2.2.2.2.1
  intro n
  induction n with
  | zero => intro σ x1 x2 x3 H locs ls hw; exact hw.elim
  | succ n ih =>
    intro σ x1 x2 x3 H locs ls hw h hl
    unfold wp_X12_stemsOf_7 at hw
    refine lv_iload_n X.1 X.2.1 dX12_stemsOf_7 rfl (lv_at hl 3 rfl) ?_
    refine j_bipush X dX12_stemsOf_8 (by decide) ?_
    refine lv_iload_n X.1 X.2.1 dX12_stemsOf_10 rfl (lv_at hl 1 rfl) ?_
    refine j_imul X dX12_stemsOf_11 ?_
    refine j_bipush X dX12_stemsOf_12 (by decide) ?_
    refine j_iadd X dX12_stemsOf_14 ?_
    obtain ⟨g_1, g_2, hwt, hwf⟩ := hw
    refine j_cmp_ge (tgt := 33) X g_1 g_2 dX12_stemsOf_15 (by decide) (fun c_6 => ?_) (fun c_6 => ?_)
    · have hw := hwt c_6
      refine lv_iload_n X.1 X.2.1 dX12_stemsOf_33 rfl (lv_at hl 2 rfl) ?_
      exact k_ir X rfl h hw dX12_stemsOf_34
    · have hw := hwf c_6
      refine lv_iload_n X.1 X.2.1 dX12_stemsOf_18 rfl (lv_at hl 2 rfl) ?_
      refine lv_aload_n X.1 X.2.1 dX12_stemsOf_19 rfl (lv_at hl 0 rfl) ?_
      refine r_getR (ci := 12) X inw_12 h (hF.1 12 rfl).1 rfl rfl 4 (by decide) kw_1642 rfl ((hF.1 12 rfl).2 4) dX12_stemsOf_20 ?_
      refine lv_iload_n X.1 X.2.1 dX12_stemsOf_23 rfl (lv_at hl 3 rfl) ?_
      obtain ⟨g_3, g_4, hw⟩ := hw
      refine r_iald (n := 1024) X h (hF.1 85 rfl).1 rfl (by decide) g_3 g_4 dX12_stemsOf_24 ?_
      refine j_iadd X dX12_stemsOf_25 ?_
      refine j_bind (fun v_5 ev_5 => ?_)
      have hw := hw v_5 ev_5
      refine lv_istore_n (lv' := [(2, .int (iv v_5)), (0, .ref (ad 12 0)), (1, .int (iv x1)), (3, .int (iv x3))]) X.1 X.2.1 dX12_stemsOf_26 rfl hl (by decide) rfl (fun ls hl => ?_)
      refine j_iinc (kk9 := 3) (lv' := [(3, .int (iv (x3 + 1))), (2, .int (iv v_5)), (0, .ref (ad 12 0)), (1, .int (iv x1))]) X dX12_stemsOf_27 hl rfl (by decide) rfl (fun ls hl => ?_)
      refine lv_goto (tgt := 7) X.1 X.2.1 dX12_stemsOf_30 (by decide) ?_
      exact ih σ x1 v_5 (x3 + 1) _ _ _ hw h (lv_sub hl [2, 3, 1, 0] rfl)
theorem pd_X12_stemsOf : yX12_stemsOf.cls ≠ "java/lang/invoke/MethodHandle" ∧ yX12_stemsOf.cls ≠ "java/lang/invoke/VarHandle" ∧ (parseMethodDescriptor yX12_stemsOf.desc).map (fun d => d.parameters.length) = some 1 := by decide +kernel
set_option maxRecDepth 100000 in
set_option maxHeartbeats 4000000 in
theorem c_X12_stemsOf (l : Launch) (D : va_G) (ct : Nat → ClassId) (ad : Nat → Nat → Nat) (L : List (Nat × Nat)) (φ : Nat → Nat → Nat → Bool) (N0 : Nat) (σ : St) (x1 : Int) (Q : Int → St → Prop) (hw : wp_X12_stemsOf σ x1 Q) : Met l yX12_stemsOf (.code yX12_stemsOf cX12_stemsOf 4 (some .int) :: gw) ({ frames := 0, cells := 0, slots := 0, locals := 0 } : Room) (Pm D ct ad L φ N0 σ [.ref (ad 12 0), .int (iv x1)]) (Qi D ct ad L φ N0 Q) 0 0 (AA N0) := by
  refine m_of (by decide) (fun p e s m below meth c X hnm h => ?_)
  have hF := X.2.2.2.2.2.2.2.2.1
  have hl := lv_entry ([.ref (ad 12 0), .int (iv x1)]) (n := 4) (Nat.le_of_ble_eq_true rfl)
  rw [lg_entry_eq]
  generalize (lg_sl ([.ref (ad 12 0), .int (iv x1)]) ++ List.replicate (4 - (lg_sl ([.ref (ad 12 0), .int (iv x1)])).length) Slot.unset).toArray = ls at hl ⊢
  have hl : lv_has ls 4 [(0, .ref (ad 12 0)), (1, .int (iv x1))] := hl
  have h : Hs D ct ad L φ N0 s.heap σ s.heap [] := h
  unfold wp_X12_stemsOf at hw
  refine j_iconst X dX12_stemsOf_0 ?_
  refine lv_istore_n (lv' := [(2, .int (iv 0)), (0, .ref (ad 12 0)), (1, .int (iv x1))]) X.1 X.2.1 dX12_stemsOf_1 rfl hl (by decide) rfl (fun ls hl => ?_)
  refine j_bipush X dX12_stemsOf_2 (by decide) ?_
  refine lv_iload_n X.1 X.2.1 dX12_stemsOf_4 rfl (lv_at hl 2 rfl) ?_
  refine j_imul X dX12_stemsOf_5 ?_
  refine j_bind (fun v_7 ev_7 => ?_)
  have hw := hw v_7 ev_7
  refine lv_istore_n (lv' := [(3, .int (iv v_7)), (2, .int (iv 0)), (0, .ref (ad 12 0)), (1, .int (iv x1))]) X.1 X.2.1 dX12_stemsOf_6 rfl hl (by decide) rfl (fun ls hl => ?_)
  exact hw.elim (fun n7 hw => lb_X12_stemsOf_7 X n7 σ x1 0 v_7 _ _ _ hw h (lv_sub hl [2, 3, 1, 0] rfl))
end
section
variable {p : Program} {l : Launch} {e : Env} {s : State} {m : MethodId} {args : Array Value} {below : List Frame} {meth : Method} {c : Code} {D : va_G} {ct : Nat → ClassId} {ad : Nat → Nat → Nat} {L : List (Nat × Nat)} {φ : Nat → Nat → Nat → Bool} {N0 : Nat}
variable {Q : Int → St → Prop}
theorem pd_X12_weather : yX12_weather.cls ≠ "java/lang/invoke/MethodHandle" ∧ yX12_weather.cls ≠ "java/lang/invoke/VarHandle" ∧ (parseMethodDescriptor yX12_weather.desc).map (fun d => d.parameters.length) = some 4 := by decide +kernel
set_option maxRecDepth 100000 in
set_option maxHeartbeats 4000000 in
theorem c_X12_weather (l : Launch) (D : va_G) (ct : Nat → ClassId) (ad : Nat → Nat → Nat) (L : List (Nat × Nat)) (φ : Nat → Nat → Nat → Bool) (N0 : Nat) (σ : St) (x1 : Int) (x2 : Int) (x3 : Int) (x4 : Int) (Q : Int → St → Prop) (hw : wp_X12_weather σ x1 x2 x3 x4 Q) : Met l yX12_weather (.code yX12_weather cX12_weather 5 (some .boolean) :: gw) ({ frames := 1, cells := 0, slots := 0, locals := 22 } : Room) (Pm D ct ad L φ N0 σ [.ref (ad 12 0), .int (iv x1), .int (iv x2), .int (iv x3), .int (iv x4)]) (Qi D ct ad L φ N0 Q) 0 0 (AA N0) := by
  refine m_of (by decide) (fun p e s m below meth c X hnm h => ?_)
  have hF := X.2.2.2.2.2.2.2.2.1
  have hl := lv_entry ([.ref (ad 12 0), .int (iv x1), .int (iv x2), .int (iv x3), .int (iv x4)]) (n := 5) (Nat.le_of_ble_eq_true rfl)
  rw [lg_entry_eq]
  generalize (lg_sl ([.ref (ad 12 0), .int (iv x1), .int (iv x2), .int (iv x3), .int (iv x4)]) ++ List.replicate (5 - (lg_sl ([.ref (ad 12 0), .int (iv x1), .int (iv x2), .int (iv x3), .int (iv x4)])).length) Slot.unset).toArray = ls at hl ⊢
  have hl : lv_has ls 5 [(0, .ref (ad 12 0)), (1, .int (iv x1)), (2, .int (iv x2)), (3, .int (iv x3)), (4, .int (iv x4))] := hl
  have h : Hs D ct ad L φ N0 s.heap σ s.heap [] := h
  unfold wp_X12_weather at hw
  refine lv_aload_n X.1 X.2.1 dX12_weather_0 rfl (lv_at hl 0 rfl) ?_
  refine j_iconst X dX12_weather_1 ?_
  refine r_put (ci := 12) X inw_12 tyX12 tyX12_ok nmX12 h (hF.1 12 rfl).1 rfl rfl 0 (by decide) kw_1638 rfl rfl rfl (Nat.le_of_ble_eq_true rfl) rfl rfl dX12_weather_2 (fun H locs h => ?_)
  obtain ⟨σ_1, eσ_1⟩ : ∃ z : St, z = st σ 12 0 0 0 := ⟨_, rfl⟩
  rw [← eσ_1] at h
  have hw := hw σ_1 eσ_1
  refine lv_iload_n X.1 X.2.1 dX12_weather_5 rfl (lv_at hl 1 rfl) ?_
  refine lv_aload_n X.1 X.2.1 dX12_weather_6 rfl (lv_at hl 0 rfl) ?_
  refine r_get (ci := 12) X inw_12 h (hF.1 12 rfl).1 rfl rfl 1 (by decide) kw_1639 rfl dX12_weather_7 ?_
  refine j_sipush X dX12_weather_10 (by decide) ?_
  refine k_i h (r_S (As := [.int (iv x1), .int (iv (σ_1 12 0 1)), .int (iv 3999)]) (rest := []) X h (c_X12_within l D ct ad L φ N0 σ_1 x1 (σ_1 12 0 1) 3999 _ hw) rfl rfl ⟨Nat.le_of_ble_eq_true rfl, Nat.le_of_ble_eq_true rfl⟩ kw_1959 kw_1960 kw_129 kw_1961 pd_X12_within rfl hl.1 rfl (Nat.le_of_ble_eq_true rfl) ⟨Nat.le_of_ble_eq_true rfl, Nat.le_of_ble_eq_true rfl⟩ dX12_weather_13) (fun r_3 σ_2 H locs hw h => ?_)
  obtain ⟨g_4, hwt, hwf⟩ := hw
  refine j_if_eq (tgt := 60) X g_4 dX12_weather_16 (by decide) (fun c_32 => ?_) (fun c_32 => ?_)
  · have hw := hwt c_32
    refine j_iconst X dX12_weather_60 ?_
    exact k_ir X rfl h hw dX12_weather_61
  · have hw := hwf c_32
    refine lv_iload_n X.1 X.2.1 dX12_weather_19 rfl (lv_at hl 2 rfl) ?_
    refine j_iconst X dX12_weather_20 ?_
    refine j_bipush X dX12_weather_21 (by decide) ?_
    refine k_i h (r_S (As := [.int (iv x2), .int (iv 0), .int (iv 9)]) (rest := []) X h (c_X12_within l D ct ad L φ N0 σ_2 x2 0 9 _ hw) rfl rfl ⟨Nat.le_of_ble_eq_true rfl, Nat.le_of_ble_eq_true rfl⟩ kw_1959 kw_1960 kw_129 kw_1961 pd_X12_within rfl hl.1 rfl (Nat.le_of_ble_eq_true rfl) ⟨Nat.le_of_ble_eq_true rfl, Nat.le_of_ble_eq_true rfl⟩ dX12_weather_23) (fun r_6 σ_5 H locs hw h => ?_)
    obtain ⟨g_7, hwt, hwf⟩ := hw
    refine j_if_eq (tgt := 60) X g_7 dX12_weather_26 (by decide) (fun c_31 => ?_) (fun c_31 => ?_)
    · have hw := hwt c_31
      refine j_iconst X dX12_weather_60 ?_
      exact k_ir X rfl h hw dX12_weather_61
    · have hw := hwf c_31
      refine lv_iload_n X.1 X.2.1 dX12_weather_29 rfl (lv_at hl 3 rfl) ?_
      refine j_iconst X dX12_weather_30 ?_
      refine j_bipush X dX12_weather_31 (by decide) ?_
      refine k_i h (r_S (As := [.int (iv x3), .int (iv 0), .int (iv 9)]) (rest := []) X h (c_X12_within l D ct ad L φ N0 σ_5 x3 0 9 _ hw) rfl rfl ⟨Nat.le_of_ble_eq_true rfl, Nat.le_of_ble_eq_true rfl⟩ kw_1959 kw_1960 kw_129 kw_1961 pd_X12_within rfl hl.1 rfl (Nat.le_of_ble_eq_true rfl) ⟨Nat.le_of_ble_eq_true rfl, Nat.le_of_ble_eq_true rfl⟩ dX12_weather_33) (fun r_9 σ_8 H locs hw h => ?_)
      obtain ⟨g_10, hwt, hwf⟩ := hw
      refine j_if_eq (tgt := 60) X g_10 dX12_weather_36 (by decide) (fun c_30 => ?_) (fun c_30 => ?_)
      · have hw := hwt c_30
        refine j_iconst X dX12_weather_60 ?_
        exact k_ir X rfl h hw dX12_weather_61
      · have hw := hwf c_30
        refine lv_iload X.1 X.2.1 dX12_weather_39 (lv_at hl 4 rfl) ?_
        refine j_iconst X dX12_weather_41 ?_
        refine j_bipush X dX12_weather_42 (by decide) ?_
        refine k_i h (r_S (As := [.int (iv x4), .int (iv 0), .int (iv 9)]) (rest := []) X h (c_X12_within l D ct ad L φ N0 σ_8 x4 0 9 _ hw) rfl rfl ⟨Nat.le_of_ble_eq_true rfl, Nat.le_of_ble_eq_true rfl⟩ kw_1959 kw_1960 kw_129 kw_1961 pd_X12_within rfl hl.1 rfl (Nat.le_of_ble_eq_true rfl) ⟨Nat.le_of_ble_eq_true rfl, Nat.le_of_ble_eq_true rfl⟩ dX12_weather_44) (fun r_12 σ_11 H locs hw h => ?_)
        obtain ⟨g_13, hwt, hwf⟩ := hw
        refine j_if_eq (tgt := 60) X g_13 dX12_weather_47 (by decide) (fun c_29 => ?_) (fun c_29 => ?_)
        · have hw := hwt c_29
          refine j_iconst X dX12_weather_60 ?_
          exact k_ir X rfl h hw dX12_weather_61
        · have hw := hwf c_29
          refine lv_aload_n X.1 X.2.1 dX12_weather_50 rfl (lv_at hl 0 rfl) ?_
          refine r_get (ci := 12) X inw_12 h (hF.1 12 rfl).1 rfl rfl 8 (by decide) kw_1646 rfl dX12_weather_51 ?_
          refine j_sipush X dX12_weather_54 (by decide) ?_
          obtain ⟨g_14, hwt, hwf⟩ := hw
          refine j_cmp_ne (tgt := 62) X g_14 ⟨by decide, by decide⟩ dX12_weather_57 (by decide) (fun c_28 => ?_) (fun c_28 => ?_)
          · have hw := hwt c_28
            refine lv_aload_n X.1 X.2.1 dX12_weather_62 rfl (lv_at hl 0 rfl) ?_
            refine r_getR (ci := 12) X inw_12 h (hF.1 12 rfl).1 rfl rfl 9 (by decide) kw_1647 rfl ((hF.1 12 rfl).2 9) dX12_weather_63 ?_
            refine lv_aload_n X.1 X.2.1 dX12_weather_66 rfl (lv_at hl 0 rfl) ?_
            refine r_get (ci := 12) X inw_12 h (hF.1 12 rfl).1 rfl rfl 8 (by decide) kw_1646 rfl dX12_weather_67 ?_
            refine lv_iload_n X.1 X.2.1 dX12_weather_70 rfl (lv_at hl 1 rfl) ?_
            obtain ⟨g_15, g_16, hw⟩ := hw
            refine r_iast (n := 200) X h (hF.1 88 rfl).1 (fun _ => rfl) (by decide) g_15 g_16 rfl dX12_weather_71 (fun H locs h => ?_)
            obtain ⟨σ_17, eσ_17⟩ : ∃ z : St, z = st σ_11 88 0 (Int.toNat (σ_11 12 0 8)) x1 := ⟨_, rfl⟩
            rw [← eσ_17] at h
            have hw := hw σ_17 eσ_17
            refine lv_aload_n X.1 X.2.1 dX12_weather_72 rfl (lv_at hl 0 rfl) ?_
            refine r_getR (ci := 12) X inw_12 h (hF.1 12 rfl).1 rfl rfl 10 (by decide) kw_1648 rfl ((hF.1 12 rfl).2 10) dX12_weather_73 ?_
            refine lv_aload_n X.1 X.2.1 dX12_weather_76 rfl (lv_at hl 0 rfl) ?_
            refine r_get (ci := 12) X inw_12 h (hF.1 12 rfl).1 rfl rfl 8 (by decide) kw_1646 rfl dX12_weather_77 ?_
            refine lv_iload_n X.1 X.2.1 dX12_weather_80 rfl (lv_at hl 2 rfl) ?_
            obtain ⟨g_18, g_19, hw⟩ := hw
            refine r_iast (n := 200) X h (hF.1 89 rfl).1 (fun _ => rfl) (by decide) g_18 g_19 rfl dX12_weather_81 (fun H locs h => ?_)
            obtain ⟨σ_20, eσ_20⟩ : ∃ z : St, z = st σ_17 89 0 (Int.toNat (σ_17 12 0 8)) x2 := ⟨_, rfl⟩
            rw [← eσ_20] at h
            have hw := hw σ_20 eσ_20
            refine lv_aload_n X.1 X.2.1 dX12_weather_82 rfl (lv_at hl 0 rfl) ?_
            refine r_getR (ci := 12) X inw_12 h (hF.1 12 rfl).1 rfl rfl 11 (by decide) kw_1649 rfl ((hF.1 12 rfl).2 11) dX12_weather_83 ?_
            refine lv_aload_n X.1 X.2.1 dX12_weather_86 rfl (lv_at hl 0 rfl) ?_
            refine r_get (ci := 12) X inw_12 h (hF.1 12 rfl).1 rfl rfl 8 (by decide) kw_1646 rfl dX12_weather_87 ?_
            refine lv_iload_n X.1 X.2.1 dX12_weather_90 rfl (lv_at hl 3 rfl) ?_
            obtain ⟨g_21, g_22, hw⟩ := hw
            refine r_iast (n := 200) X h (hF.1 90 rfl).1 (fun _ => rfl) (by decide) g_21 g_22 rfl dX12_weather_91 (fun H locs h => ?_)
            obtain ⟨σ_23, eσ_23⟩ : ∃ z : St, z = st σ_20 90 0 (Int.toNat (σ_20 12 0 8)) x3 := ⟨_, rfl⟩
            rw [← eσ_23] at h
            have hw := hw σ_23 eσ_23
            refine lv_aload_n X.1 X.2.1 dX12_weather_92 rfl (lv_at hl 0 rfl) ?_
            refine r_getR (ci := 12) X inw_12 h (hF.1 12 rfl).1 rfl rfl 12 (by decide) kw_1650 rfl ((hF.1 12 rfl).2 12) dX12_weather_93 ?_
            refine lv_aload_n X.1 X.2.1 dX12_weather_96 rfl (lv_at hl 0 rfl) ?_
            refine r_get (ci := 12) X inw_12 h (hF.1 12 rfl).1 rfl rfl 8 (by decide) kw_1646 rfl dX12_weather_97 ?_
            refine lv_iload X.1 X.2.1 dX12_weather_100 (lv_at hl 4 rfl) ?_
            obtain ⟨g_24, g_25, hw⟩ := hw
            refine r_iast (n := 200) X h (hF.1 91 rfl).1 (fun _ => rfl) (by decide) g_24 g_25 rfl dX12_weather_102 (fun H locs h => ?_)
            obtain ⟨σ_26, eσ_26⟩ : ∃ z : St, z = st σ_23 91 0 (Int.toNat (σ_23 12 0 8)) x4 := ⟨_, rfl⟩
            rw [← eσ_26] at h
            have hw := hw σ_26 eσ_26
            refine lv_aload_n X.1 X.2.1 dX12_weather_103 rfl (lv_at hl 0 rfl) ?_
            refine lv_dup X.1 X.2.1 dX12_weather_104 rfl ?_
            refine r_get (ci := 12) X inw_12 h (hF.1 12 rfl).1 rfl rfl 8 (by decide) kw_1646 rfl dX12_weather_105 ?_
            refine j_iconst X dX12_weather_108 ?_
            refine j_iadd X dX12_weather_109 ?_
            refine r_put (ci := 12) X inw_12 tyX12 tyX12_ok nmX12 h (hF.1 12 rfl).1 rfl rfl 8 (by decide) kw_1646 rfl rfl rfl (Nat.le_of_ble_eq_true rfl) rfl rfl dX12_weather_110 (fun H locs h => ?_)
            obtain ⟨σ_27, eσ_27⟩ : ∃ z : St, z = st σ_26 12 0 8 ((σ_26 12 0 8) + 1) := ⟨_, rfl⟩
            rw [← eσ_27] at h
            have hw := hw σ_27 eσ_27
            refine j_iconst X dX12_weather_113 ?_
            exact k_ir X rfl h hw dX12_weather_114
          · have hw := hwf c_28
            refine j_iconst X dX12_weather_60 ?_
            exact k_ir X rfl h hw dX12_weather_61
end
section
variable {p : Program} {l : Launch} {e : Env} {s : State} {m : MethodId} {args : Array Value} {below : List Frame} {meth : Method} {c : Code} {D : va_G} {ct : Nat → ClassId} {ad : Nat → Nat → Nat} {L : List (Nat × Nat)} {φ : Nat → Nat → Nat → Bool} {N0 : Nat}
variable {Q : Int → St → Prop}
set_option maxRecDepth 100000 in
set_option maxHeartbeats 4000000 in
theorem lb_X12_sky_55 (X : Cx p s m meth c args cX12_sky 5 (some .int) RX12 D ct L φ N0) (σ : St) (x2 : Int) (x3 : Int) (H : Heap) (locs : List Loc) (ls : Array Slot) (hw : wp_X12_sky_55 Q σ x2 x3) (h : Hs D ct ad L φ N0 s.heap σ H locs) (hl : lv_has ls 5 [(0, .ref (ad 12 0)), (2, .int (iv x2)), (3, .int (iv x3))]) : W p l e ({ frames := 0, cells := 0, slots := 0, locals := 0 } : Room) s m args below meth c H locs 0 0 (MQ below (Qi D ct ad L φ N0 Q) args s 0 0 (AA N0)) (F0 m 55 ls []) := by
  have hF := X.2.2.2.2.2.2.2.2.1
  unfold wp_X12_sky_55 at hw
  refine lv_iload_n X.1 X.2.1 dX12_sky_55 rfl (lv_at hl 2 rfl) ?_
  refine j_iconst X dX12_sky_56 ?_
  obtain ⟨g_1, hwt, hwf⟩ := hw
  refine j_cmp_ne (tgt := 79) X g_1 ⟨by decide, by decide⟩ dX12_sky_57 (by decide) (fun c_16 => ?_) (fun c_16 => ?_)
  · have hw := hwt c_16
    refine lv_iload_n X.1 X.2.1 dX12_sky_79 rfl (lv_at hl 1 rfl) ?_
    obtain ⟨g_2, hwt, hwf⟩ := hw
    refine j_if_ne (tgt := 92) X g_2 dX12_sky_80 (by decide) (fun c_11 => ?_) (fun c_11 => ?_)
    · have hw := hwt c_11
      refine lv_iload_n X.1 X.2.1 dX12_sky_92 rfl (lv_at hl 1 rfl) ?_
      refine j_iconst X dX12_sky_93 ?_
      obtain ⟨g_3, hwt, hwf⟩ := hw
      refine j_cmp_ne (tgt := 106) X g_3 ⟨by decide, by decide⟩ dX12_sky_94 (by decide) (fun c_8 => ?_) (fun c_8 => ?_)
      · have hw := hwt c_8
        refine lv_aload_n X.1 X.2.1 dX12_sky_106 rfl (lv_at hl 0 rfl) ?_
        refine r_getR (ci := 12) X inw_12 h (hF.1 12 rfl).1 rfl rfl 12 (by decide) kw_1650 rfl ((hF.1 12 rfl).2 12) dX12_sky_107 ?_
        refine lv_iload_n X.1 X.2.1 dX12_sky_110 rfl (lv_at hl 2 rfl) ?_
        obtain ⟨g_4, g_5, hw⟩ := hw
        refine r_iald (n := 200) X h (hF.1 91 rfl).1 rfl (by decide) g_4 g_5 dX12_sky_111 ?_
        exact k_ir X rfl h hw dX12_sky_112
      · have hw := hwf c_8
        refine lv_aload_n X.1 X.2.1 dX12_sky_97 rfl (lv_at hl 0 rfl) ?_
        refine r_getR (ci := 12) X inw_12 h (hF.1 12 rfl).1 rfl rfl 11 (by decide) kw_1649 rfl ((hF.1 12 rfl).2 11) dX12_sky_98 ?_
        refine lv_iload_n X.1 X.2.1 dX12_sky_101 rfl (lv_at hl 2 rfl) ?_
        obtain ⟨g_6, g_7, hw⟩ := hw
        refine r_iald (n := 200) X h (hF.1 90 rfl).1 rfl (by decide) g_6 g_7 dX12_sky_102 ?_
        refine lv_goto (tgt := 112) X.1 X.2.1 dX12_sky_103 (by decide) ?_
        exact k_ir X rfl h hw dX12_sky_112
    · have hw := hwf c_11
      refine lv_aload_n X.1 X.2.1 dX12_sky_83 rfl (lv_at hl 0 rfl) ?_
      refine r_getR (ci := 12) X inw_12 h (hF.1 12 rfl).1 rfl rfl 10 (by decide) kw_1648 rfl ((hF.1 12 rfl).2 10) dX12_sky_84 ?_
      refine lv_iload_n X.1 X.2.1 dX12_sky_87 rfl (lv_at hl 2 rfl) ?_
      obtain ⟨g_9, g_10, hw⟩ := hw
      refine r_iald (n := 200) X h (hF.1 89 rfl).1 rfl (by decide) g_9 g_10 dX12_sky_88 ?_
      refine lv_goto (tgt := 112) X.1 X.2.1 dX12_sky_89 (by decide) ?_
      exact k_ir X rfl h hw dX12_sky_112
  · have hw := hwf c_16
    refine lv_iload_n X.1 X.2.1 dX12_sky_60 rfl (lv_at hl 1 rfl) ?_
    obtain ⟨g_12, hwt, hwf⟩ := hw
    refine j_if_ne (tgt := 68) X g_12 dX12_sky_61 (by decide) (fun c_15 => ?_) (fun c_15 => ?_)
    · have hw := hwt c_15
      refine lv_iload_n X.1 X.2.1 dX12_sky_68 rfl (lv_at hl 1 rfl) ?_
      refine j_iconst X dX12_sky_69 ?_
      obtain ⟨g_13, hwt, hwf⟩ := hw
      refine j_cmp_ne (tgt := 77) X g_13 ⟨by decide, by decide⟩ dX12_sky_70 (by decide) (fun c_14 => ?_) (fun c_14 => ?_)
      · have hw := hwt c_14
        refine j_iconst X dX12_sky_77 ?_
        exact k_ir X rfl h hw dX12_sky_78
      · have hw := hwf c_14
        refine j_iconst X dX12_sky_73 ?_
        refine lv_goto (tgt := 78) X.1 X.2.1 dX12_sky_74 (by decide) ?_
        exact k_ir X rfl h hw dX12_sky_78
    · have hw := hwf c_15
      refine j_iconst X dX12_sky_64 ?_
      refine lv_goto (tgt := 78) X.1 X.2.1 dX12_sky_65 (by decide) ?_
      exact k_ir X rfl h hw dX12_sky_78
set_option maxRecDepth 100000 in
set_option maxHeartbeats 4000000 in
theorem lb_X12_sky_49 (X : Cx p s m meth c args cX12_sky 5 (some .int) RX12 D ct L φ N0) {K5 : St → Int → Int → Int → Int → Prop} {K55 : St → Int → Int → Prop} (hK5 : ∀ (σ : St) (x1 : Int) (x2 : Int) (x3 : Int) (x4 : Int) (H : Heap) (locs : List Loc) (ls : Array Slot), K5 σ x1 x2 x3 x4 → Hs D ct ad L φ N0 s.heap σ H locs → lv_has ls 5 [(0, .ref (ad 12 0)), (1, .int (iv x1)), (2, .int (iv x2)), (3, .int (iv x3)), (4, .int (iv x4))] → W p l e ({ frames := 0, cells := 0, slots := 0, locals := 0 } : Room) s m args below meth c H locs 0 0 (MQ below (Qi D ct ad L φ N0 Q) args s 0 0 (AA N0)) (F0 m 5 ls [])) (hK55 : ∀ (σ : St) (x2 : Int) (x3 : Int) (H : Heap) (locs : List Loc) (ls : Array Slot), K55 σ x2 x3 → Hs D ct ad L φ N0 s.heap σ H locs → lv_has ls 5 [(0, .ref (ad 12 0)), (2, .int (iv x2)), (3, .int (iv x3))] → W p l e ({ frames := 0, cells := 0, slots := 0, locals := 0 } : Room) s m args below meth c H locs 0 0 (MQ below (Qi D ct ad L φ N0 Q) args s 0 0 (AA N0)) (F0 m 55 ls [])) (σ : St) (x1 : Int) (x2 : Int) (x3 : Int) (x4 : Int) (H : Heap) (locs : List Loc) (ls : Array Slot) (hw : wp_X12_sky_49 K5 K55 Q σ x1 x2 x3 x4) (h : Hs D ct ad L φ N0 s.heap σ H locs) (hl : lv_has ls 5 [(0, .ref (ad 12 0)), (1, .int (iv x1)), (2, .int (iv x2)), (3, .int (iv x3)), (4, .int (iv x4))]) : W p l e ({ frames := 0, cells := 0, slots := 0, locals := 0 } : Room) s m args below meth c H locs 0 0 (MQ below (Qi D ct ad L φ N0 Q) args s 0 0 (AA N0)) (F0 m 49 ls []) := by
  have hF := X.2.2.2.2.2.2.2.2.1
  unfold wp_X12_sky_49 at hw
  refine j_iinc (kk9 := 4) (lv' := [(4, .int (iv (x4 + 1))), (0, .ref (ad 12 0)), (1, .int (iv x1)), (2, .int (iv x2)), (3, .int (iv x3))]) X dX12_sky_49 hl rfl (by decide) rfl (fun ls hl => ?_)
  refine lv_goto (tgt := 5) X.1 X.2.1 dX12_sky_52 (by decide) ?_
  exact hK5 σ x1 x2 x3 (x4 + 1) _ _ _ hw h (lv_sub hl [1, 2, 3, 4, 0] rfl)
set_option maxRecDepth 100000 in
set_option maxHeartbeats 4000000 in
theorem lb_X12_sky_46 (X : Cx p s m meth c args cX12_sky 5 (some .int) RX12 D ct L φ N0) {K5 : St → Int → Int → Int → Int → Prop} {K55 : St → Int → Int → Prop} (hK5 : ∀ (σ : St) (x1 : Int) (x2 : Int) (x3 : Int) (x4 : Int) (H : Heap) (locs : List Loc) (ls : Array Slot), K5 σ x1 x2 x3 x4 → Hs D ct ad L φ N0 s.heap σ H locs → lv_has ls 5 [(0, .ref (ad 12 0)), (1, .int (iv x1)), (2, .int (iv x2)), (3, .int (iv x3)), (4, .int (iv x4))] → W p l e ({ frames := 0, cells := 0, slots := 0, locals := 0 } : Room) s m args below meth c H locs 0 0 (MQ below (Qi D ct ad L φ N0 Q) args s 0 0 (AA N0)) (F0 m 5 ls [])) (hK55 : ∀ (σ : St) (x2 : Int) (x3 : Int) (H : Heap) (locs : List Loc) (ls : Array Slot), K55 σ x2 x3 → Hs D ct ad L φ N0 s.heap σ H locs → lv_has ls 5 [(0, .ref (ad 12 0)), (2, .int (iv x2)), (3, .int (iv x3))] → W p l e ({ frames := 0, cells := 0, slots := 0, locals := 0 } : Room) s m args below meth c H locs 0 0 (MQ below (Qi D ct ad L φ N0 Q) args s 0 0 (AA N0)) (F0 m 55 ls [])) (σ : St) (x1 : Int) (x2 : Int) (x4 : Int) (H : Heap) (locs : List Loc) (ls : Array Slot) (hw : wp_X12_sky_46 K5 K55 Q σ x1 x2 x4) (h : Hs D ct ad L φ N0 s.heap σ H locs) (hl : lv_has ls 5 [(0, .ref (ad 12 0)), (1, .int (iv x1)), (2, .int (iv x2)), (4, .int (iv x4))]) : W p l e ({ frames := 0, cells := 0, slots := 0, locals := 0 } : Room) s m args below meth c H locs 0 0 (MQ below (Qi D ct ad L φ N0 Q) args s 0 0 (AA N0)) (F0 m 46 ls []) := by
  have hF := X.2.2.2.2.2.2.2.2.1
  unfold wp_X12_sky_46 at hw
  refine lv_iload X.1 X.2.1 dX12_sky_46 (lv_at hl 3 rfl) ?_
  refine lv_istore_n (lv' := [(3, .int (iv x4)), (0, .ref (ad 12 0)), (1, .int (iv x1)), (2, .int (iv x2)), (4, .int (iv x4))]) X.1 X.2.1 dX12_sky_48 rfl hl (by decide) rfl (fun ls hl => ?_)
  exact lb_X12_sky_49 X hK5 hK55 σ x1 x2 x4 x4 _ _ _ hw h (lv_sub hl [1, 2, 3, 0, 4] rfl)
set_option maxRecDepth 100000 in
set_option maxHeartbeats 4000000 in
theorem lb_X12_sky_5 (X : Cx p s m meth c args cX12_sky 5 (some .int) RX12 D ct L φ N0) {K55 : St → Int → Int → Prop} (hK55 : ∀ (σ : St) (x2 : Int) (x3 : Int) (H : Heap) (locs : List Loc) (ls : Array Slot), K55 σ x2 x3 → Hs D ct ad L φ N0 s.heap σ H locs → lv_has ls 5 [(0, .ref (ad 12 0)), (2, .int (iv x2)), (3, .int (iv x3))] → W p l e ({ frames := 0, cells := 0, slots := 0, locals := 0 } : Room) s m args below meth c H locs 0 0 (MQ below (Qi D ct ad L φ N0 Q) args s 0 0 (AA N0)) (F0 m 55 ls [])) : ∀ (n : Nat) (σ : St) (x1 : Int) (x2 : Int) (x3 : Int) (x4 : Int) (H : Heap) (locs : List Loc) (ls : Array Slot), wp_X12_sky_5 K55 Q n σ x1 x2 x3 x4 → Hs D ct ad L φ N0 s.heap σ H locs → lv_has ls 5 [(0, .ref (ad 12 0)), (1, .int (iv x1)), (2, .int (iv x2)), (3, .int (iv x3)), (4, .int (iv x4))] → W p l e ({ frames := 0, cells := 0, slots := 0, locals := 0 } : Room) s m args below meth c H locs 0 0 (MQ below (Qi D ct ad L φ N0 Q) args s 0 0 (AA N0)) (F0 m 5 ls []) := by
  have hF := X.2.2.2.2.2.2.2.2.1
  intro n
  induction n with
  | zero => intro σ x1 x2 x3 x4 H locs ls hw; exact hw.elim
  | succ n ih =>
    intro σ x1 x2 x3 x4 H locs ls hw h hl
    unfold wp_X12_sky_5 at hw
    refine lv_iload X.1 X.2.1 dX12_sky_5 (lv_at hl 4 rfl) ?_
    refine lv_aload_n X.1 X.2.1 dX12_sky_7 rfl (lv_at hl 0 rfl) ?_
    refine r_get (ci := 12) X inw_12 h (hF.1 12 rfl).1 rfl rfl 8 (by decide) kw_1646 rfl dX12_sky_8 ?_
    obtain ⟨g_17, g_18, hwt, hwf⟩ := hw
    refine j_cmp_ge (tgt := 55) X g_17 g_18 dX12_sky_11 (by decide) (fun c_33 => ?_) (fun c_33 => ?_)
    · have hw := hwt c_33
      exact hK55 σ x2 x3 _ _ _ hw h (lv_sub hl [0, 2, 3] rfl)
    · have hw := hwf c_33
      refine lv_aload_n X.1 X.2.1 dX12_sky_14 rfl (lv_at hl 0 rfl) ?_
      refine r_getR (ci := 12) X inw_12 h (hF.1 12 rfl).1 rfl rfl 9 (by decide) kw_1647 rfl ((hF.1 12 rfl).2 9) dX12_sky_15 ?_
      refine lv_iload X.1 X.2.1 dX12_sky_18 (lv_at hl 4 rfl) ?_
      obtain ⟨g_19, g_20, hw⟩ := hw
      refine r_iald (n := 200) X h (hF.1 88 rfl).1 rfl (by decide) g_19 g_20 dX12_sky_20 ?_
      refine lv_iload_n X.1 X.2.1 dX12_sky_21 rfl (lv_at hl 1 rfl) ?_
      obtain ⟨g_21, g_22, hwt, hwf⟩ := hw
      refine j_cmp_gt (tgt := 49) X g_21 g_22 dX12_sky_22 (by decide) (fun c_32 => ?_) (fun c_32 => ?_)
      · have hw := hwt c_32
        exact lb_X12_sky_49 X ih hK55 σ x1 x2 x3 x4 _ _ _ hw h (lv_sub hl [0, 1, 2, 3, 4] rfl)
      · have hw := hwf c_32
        refine lv_iload_n X.1 X.2.1 dX12_sky_25 rfl (lv_at hl 3 rfl) ?_
        refine j_iconst X dX12_sky_26 ?_
        obtain ⟨g_23, hwt, hwf⟩ := hw
        refine j_cmp_eq (tgt := 46) X g_23 ⟨by decide, by decide⟩ dX12_sky_27 (by decide) (fun c_31 => ?_) (fun c_31 => ?_)
        · have hw := hwt c_31
          exact lb_X12_sky_46 X ih hK55 σ x1 x2 x4 _ _ _ hw h (lv_sub hl [0, 1, 2, 4] rfl)
        · have hw := hwf c_31
          refine lv_aload_n X.1 X.2.1 dX12_sky_30 rfl (lv_at hl 0 rfl) ?_
          refine r_getR (ci := 12) X inw_12 h (hF.1 12 rfl).1 rfl rfl 9 (by decide) kw_1647 rfl ((hF.1 12 rfl).2 9) dX12_sky_31 ?_
          refine lv_iload X.1 X.2.1 dX12_sky_34 (lv_at hl 4 rfl) ?_
          obtain ⟨g_24, g_25, hw⟩ := hw
          refine r_iald (n := 200) X h (hF.1 88 rfl).1 rfl (by decide) g_24 g_25 dX12_sky_36 ?_
          refine lv_aload_n X.1 X.2.1 dX12_sky_37 rfl (lv_at hl 0 rfl) ?_
          refine r_getR (ci := 12) X inw_12 h (hF.1 12 rfl).1 rfl rfl 9 (by decide) kw_1647 rfl ((hF.1 12 rfl).2 9) dX12_sky_38 ?_
          refine lv_iload_n X.1 X.2.1 dX12_sky_41 rfl (lv_at hl 3 rfl) ?_
          obtain ⟨g_26, g_27, hw⟩ := hw
          refine r_iald (n := 200) X h (hF.1 88 rfl).1 rfl (by decide) g_26 g_27 dX12_sky_42 ?_
          obtain ⟨g_28, g_29, hwt, hwf⟩ := hw
          refine j_cmp_lt (tgt := 49) X g_28 g_29 dX12_sky_43 (by decide) (fun c_30 => ?_) (fun c_30 => ?_)
          · have hw := hwt c_30
            exact lb_X12_sky_49 X ih hK55 σ x1 x2 x3 x4 _ _ _ hw h (lv_sub hl [0, 1, 2, 3, 4] rfl)
          · have hw := hwf c_30
            exact lb_X12_sky_46 X ih hK55 σ x1 x2 x4 _ _ _ hw h (lv_sub hl [0, 1, 2, 4] rfl)
theorem pd_X12_sky : yX12_sky.cls ≠ "java/lang/invoke/MethodHandle" ∧ yX12_sky.cls ≠ "java/lang/invoke/VarHandle" ∧ (parseMethodDescriptor yX12_sky.desc).map (fun d => d.parameters.length) = some 2 := by decide +kernel
set_option maxRecDepth 100000 in
set_option maxHeartbeats 4000000 in
theorem c_X12_sky (l : Launch) (D : va_G) (ct : Nat → ClassId) (ad : Nat → Nat → Nat) (L : List (Nat × Nat)) (φ : Nat → Nat → Nat → Bool) (N0 : Nat) (σ : St) (x1 : Int) (x2 : Int) (Q : Int → St → Prop) (hw : wp_X12_sky σ x1 x2 Q) : Met l yX12_sky (.code yX12_sky cX12_sky 5 (some .int) :: gw) ({ frames := 0, cells := 0, slots := 0, locals := 0 } : Room) (Pm D ct ad L φ N0 σ [.ref (ad 12 0), .int (iv x1), .int (iv x2)]) (Qi D ct ad L φ N0 Q) 0 0 (AA N0) := by
  refine m_of (by decide) (fun p e s m below meth c X hnm h => ?_)
  have hF := X.2.2.2.2.2.2.2.2.1
  have hl := lv_entry ([.ref (ad 12 0), .int (iv x1), .int (iv x2)]) (n := 5) (Nat.le_of_ble_eq_true rfl)
  rw [lg_entry_eq]
  generalize (lg_sl ([.ref (ad 12 0), .int (iv x1), .int (iv x2)]) ++ List.replicate (5 - (lg_sl ([.ref (ad 12 0), .int (iv x1), .int (iv x2)])).length) Slot.unset).toArray = ls at hl ⊢
  have hl : lv_has ls 5 [(0, .ref (ad 12 0)), (1, .int (iv x1)), (2, .int (iv x2))] := hl
  have h : Hs D ct ad L φ N0 s.heap σ s.heap [] := h
  unfold wp_X12_sky at hw
  refine j_iconst X dX12_sky_0 ?_
  refine lv_istore_n (lv' := [(3, .int (iv (-1))), (0, .ref (ad 12 0)), (1, .int (iv x1)), (2, .int (iv x2))]) X.1 X.2.1 dX12_sky_1 rfl hl (by decide) rfl (fun ls hl => ?_)
  refine j_iconst X dX12_sky_2 ?_
  refine lv_istore (lv' := [(4, .int (iv 0)), (3, .int (iv (-1))), (0, .ref (ad 12 0)), (1, .int (iv x1)), (2, .int (iv x2))]) X.1 X.2.1 dX12_sky_3 hl (by decide) rfl (fun ls hl => ?_)
  exact hw.elim (fun n5 hw => lb_X12_sky_5 X (lb_X12_sky_55 X) n5 σ x1 x2 (-1) 0 _ _ _ hw h (lv_sub hl [2, 3, 4, 1, 0] rfl))
end
section
variable {p : Program} {l : Launch} {e : Env} {s : State} {m : MethodId} {args : Array Value} {below : List Frame} {meth : Method} {c : Code} {D : va_G} {ct : Nat → ClassId} {ad : Nat → Nat → Nat} {L : List (Nat × Nat)} {φ : Nat → Nat → Nat → Bool} {N0 : Nat}
variable {Q : Int → St → Prop}
theorem pd_X12_weatherOf : yX12_weatherOf.cls ≠ "java/lang/invoke/MethodHandle" ∧ yX12_weatherOf.cls ≠ "java/lang/invoke/VarHandle" ∧ (parseMethodDescriptor yX12_weatherOf.desc).map (fun d => d.parameters.length) = some 2 := by decide +kernel
set_option maxRecDepth 100000 in
set_option maxHeartbeats 4000000 in
theorem c_X12_weatherOf (l : Launch) (D : va_G) (ct : Nat → ClassId) (ad : Nat → Nat → Nat) (L : List (Nat × Nat)) (φ : Nat → Nat → Nat → Bool) (N0 : Nat) (σ : St) (x1 : Int) (x2 : Int) (Q : Int → St → Prop) (hw : wp_X12_weatherOf σ x1 x2 Q) : Met l yX12_weatherOf (.code yX12_weatherOf cX12_weatherOf 3 (some .int) :: gw) ({ frames := 1, cells := 0, slots := 0, locals := 24 } : Room) (Pm D ct ad L φ N0 σ [.ref (ad 12 0), .int (iv x1), .int (iv x2)]) (Qi D ct ad L φ N0 Q) 0 0 (AA N0) := by
  refine m_of (by decide) (fun p e s m below meth c X hnm h => ?_)
  have hF := X.2.2.2.2.2.2.2.2.1
  have hl := lv_entry ([.ref (ad 12 0), .int (iv x1), .int (iv x2)]) (n := 3) (Nat.le_of_ble_eq_true rfl)
  rw [lg_entry_eq]
  generalize (lg_sl ([.ref (ad 12 0), .int (iv x1), .int (iv x2)]) ++ List.replicate (3 - (lg_sl ([.ref (ad 12 0), .int (iv x1), .int (iv x2)])).length) Slot.unset).toArray = ls at hl ⊢
  have hl : lv_has ls 3 [(0, .ref (ad 12 0)), (1, .int (iv x1)), (2, .int (iv x2))] := hl
  have h : Hs D ct ad L φ N0 s.heap σ s.heap [] := h
  unfold wp_X12_weatherOf at hw
  refine lv_aload_n X.1 X.2.1 dX12_weatherOf_0 rfl (lv_at hl 0 rfl) ?_
  refine j_iconst X dX12_weatherOf_1 ?_
  refine r_put (ci := 12) X inw_12 tyX12 tyX12_ok nmX12 h (hF.1 12 rfl).1 rfl rfl 0 (by decide) kw_1638 rfl rfl rfl (Nat.le_of_ble_eq_true rfl) rfl rfl dX12_weatherOf_2 (fun H locs h => ?_)
  obtain ⟨σ_1, eσ_1⟩ : ∃ z : St, z = st σ 12 0 0 0 := ⟨_, rfl⟩
  rw [← eσ_1] at h
  have hw := hw σ_1 eσ_1
  refine lv_iload_n X.1 X.2.1 dX12_weatherOf_5 rfl (lv_at hl 1 rfl) ?_
  refine j_iconst X dX12_weatherOf_6 ?_
  refine j_sipush X dX12_weatherOf_7 (by decide) ?_
  refine k_i h (r_S (As := [.int (iv x1), .int (iv 0), .int (iv 3999)]) (rest := []) X h (c_X12_within l D ct ad L φ N0 σ_1 x1 0 3999 _ hw) rfl rfl ⟨Nat.le_of_ble_eq_true rfl, Nat.le_of_ble_eq_true rfl⟩ kw_1959 kw_1960 kw_129 kw_1961 pd_X12_within rfl hl.1 rfl (Nat.le_of_ble_eq_true rfl) ⟨Nat.le_of_ble_eq_true rfl, Nat.le_of_ble_eq_true rfl⟩ dX12_weatherOf_10) (fun r_3 σ_2 H locs hw h => ?_)
  obtain ⟨g_4, hwt, hwf⟩ := hw
  refine j_if_eq (tgt := 34) X g_4 dX12_weatherOf_13 (by decide) (fun c_11 => ?_) (fun c_11 => ?_)
  · have hw := hwt c_11
    refine j_iconst X dX12_weatherOf_34 ?_
    exact k_ir X rfl h hw dX12_weatherOf_35
  · have hw := hwf c_11
    refine lv_iload_n X.1 X.2.1 dX12_weatherOf_16 rfl (lv_at hl 2 rfl) ?_
    refine j_iconst X dX12_weatherOf_17 ?_
    refine j_iconst X dX12_weatherOf_18 ?_
    refine k_i h (r_S (As := [.int (iv x2), .int (iv 0), .int (iv 2)]) (rest := []) X h (c_X12_within l D ct ad L φ N0 σ_2 x2 0 2 _ hw) rfl rfl ⟨Nat.le_of_ble_eq_true rfl, Nat.le_of_ble_eq_true rfl⟩ kw_1959 kw_1960 kw_129 kw_1961 pd_X12_within rfl hl.1 rfl (Nat.le_of_ble_eq_true rfl) ⟨Nat.le_of_ble_eq_true rfl, Nat.le_of_ble_eq_true rfl⟩ dX12_weatherOf_19) (fun r_6 σ_5 H locs hw h => ?_)
    obtain ⟨g_7, hwt, hwf⟩ := hw
    refine j_if_eq (tgt := 34) X g_7 dX12_weatherOf_22 (by decide) (fun c_10 => ?_) (fun c_10 => ?_)
    · have hw := hwt c_10
      refine j_iconst X dX12_weatherOf_34 ?_
      exact k_ir X rfl h hw dX12_weatherOf_35
    · have hw := hwf c_10
      refine lv_aload_n X.1 X.2.1 dX12_weatherOf_25 rfl (lv_at hl 0 rfl) ?_
      refine lv_iload_n X.1 X.2.1 dX12_weatherOf_26 rfl (lv_at hl 1 rfl) ?_
      refine lv_iload_n X.1 X.2.1 dX12_weatherOf_27 rfl (lv_at hl 2 rfl) ?_
      refine k_i h (r_V (C := RX12) (ci := 12) (As := [.int (iv x1), .int (iv x2)]) (rest := []) X h (c_X12_sky l D ct ad L φ N0 σ_5 x1 x2 _ hw) rfl rfl ⟨Nat.le_of_ble_eq_true rfl, Nat.le_of_ble_eq_true rfl⟩ kw_1988 kw_1990 kw_65 kw_129 kw_1991 ⟨rfl, pd_X12_sky⟩ (hF.1 12 rfl).1 rfl rfl rfl hl.1 rfl (Nat.le_of_ble_eq_true rfl) ⟨Nat.le_of_ble_eq_true rfl, Nat.le_of_ble_eq_true rfl⟩ dX12_weatherOf_28) (fun r_9 σ_8 H locs hw h => ?_)
      refine lv_goto (tgt := 35) X.1 X.2.1 dX12_weatherOf_31 (by decide) ?_
      exact k_ir X rfl h hw dX12_weatherOf_35
end
section
variable {p : Program} {l : Launch} {e : Env} {s : State} {m : MethodId} {args : Array Value} {below : List Frame} {meth : Method} {c : Code} {D : va_G} {ct : Nat → ClassId} {ad : Nat → Nat → Nat} {L : List (Nat × Nat)} {φ : Nat → Nat → Nat → Bool} {N0 : Nat}
variable {Q : Int → St → Prop}
theorem pd_X12_season : yX12_season.cls ≠ "java/lang/invoke/MethodHandle" ∧ yX12_season.cls ≠ "java/lang/invoke/VarHandle" ∧ (parseMethodDescriptor yX12_season.desc).map (fun d => d.parameters.length) = some 0 := by decide +kernel
set_option maxRecDepth 100000 in
set_option maxHeartbeats 4000000 in
theorem c_X12_season (l : Launch) (D : va_G) (ct : Nat → ClassId) (ad : Nat → Nat → Nat) (L : List (Nat × Nat)) (φ : Nat → Nat → Nat → Bool) (N0 : Nat) (σ : St) (Q : Int → St → Prop) (hw : wp_X12_season σ Q) : Met l yX12_season (.code yX12_season cX12_season 1 (some .int) :: gw) ({ frames := 0, cells := 0, slots := 0, locals := 0 } : Room) (Pm D ct ad L φ N0 σ [.ref (ad 12 0)]) (Qi D ct ad L φ N0 Q) 0 0 (AA N0) := by
  refine m_of (by decide) (fun p e s m below meth c X hnm h => ?_)
  have hF := X.2.2.2.2.2.2.2.2.1
  have hl := lv_entry ([.ref (ad 12 0)]) (n := 1) (Nat.le_of_ble_eq_true rfl)
  rw [lg_entry_eq]
  generalize (lg_sl ([.ref (ad 12 0)]) ++ List.replicate (1 - (lg_sl ([.ref (ad 12 0)])).length) Slot.unset).toArray = ls at hl ⊢
  have hl : lv_has ls 1 [(0, .ref (ad 12 0))] := hl
  have h : Hs D ct ad L φ N0 s.heap σ s.heap [] := h
  unfold wp_X12_season at hw
  refine lv_aload_n X.1 X.2.1 dX12_season_0 rfl (lv_at hl 0 rfl) ?_
  refine r_get (ci := 12) X inw_12 h (hF.1 12 rfl).1 rfl rfl 1 (by decide) kw_1639 rfl dX12_season_1 ?_
  refine j_bipush X dX12_season_4 (by decide) ?_
  obtain ⟨g_1, hw⟩ := hw
  refine j_irem X g_1 ⟨by decide, by decide⟩ (by decide) (by decide) dX12_season_6 ?_
  refine j_bipush X dX12_season_7 (by decide) ?_
  obtain ⟨g_2, hw⟩ := hw
  refine j_idiv X g_2 ⟨by decide, by decide⟩ (by decide) (by decide) dX12_season_9 ?_
  exact k_ir X rfl h hw dX12_season_10
end
section
variable {p : Program} {l : Launch} {e : Env} {s : State} {m : MethodId} {args : Array Value} {below : List Frame} {meth : Method} {c : Code} {D : va_G} {ct : Nat → ClassId} {ad : Nat → Nat → Nat} {L : List (Nat × Nat)} {φ : Nat → Nat → Nat → Bool} {N0 : Nat}
variable {Q : Int → St → Prop}
theorem pd_X12_unitsOf : yX12_unitsOf.cls ≠ "java/lang/invoke/MethodHandle" ∧ yX12_unitsOf.cls ≠ "java/lang/invoke/VarHandle" ∧ (parseMethodDescriptor yX12_unitsOf.desc).map (fun d => d.parameters.length) = some 1 := by decide +kernel
set_option maxRecDepth 100000 in
set_option maxHeartbeats 4000000 in
theorem c_X12_unitsOf (l : Launch) (D : va_G) (ct : Nat → ClassId) (ad : Nat → Nat → Nat) (L : List (Nat × Nat)) (φ : Nat → Nat → Nat → Bool) (N0 : Nat) (σ : St) (x0 : Int) (Q : Int → St → Prop) (hw : wp_X12_unitsOf σ x0 Q) : Met l yX12_unitsOf (.code yX12_unitsOf cX12_unitsOf 1 (some .int) :: gw) ({ frames := 0, cells := 0, slots := 0, locals := 0 } : Room) (Pm D ct ad L φ N0 σ [.int (iv x0)]) (Qi D ct ad L φ N0 Q) 0 0 (AA N0) := by
  refine m_of (by decide) (fun p e s m below meth c X hnm h => ?_)
  have hF := X.2.2.2.2.2.2.2.2.1
  have hl := lv_entry ([.int (iv x0)]) (n := 1) (Nat.le_of_ble_eq_true rfl)
  rw [lg_entry_eq]
  generalize (lg_sl ([.int (iv x0)]) ++ List.replicate (1 - (lg_sl ([.int (iv x0)])).length) Slot.unset).toArray = ls at hl ⊢
  have hl : lv_has ls 1 [(0, .int (iv x0))] := hl
  have h : Hs D ct ad L φ N0 s.heap σ s.heap [] := h
  unfold wp_X12_unitsOf at hw
  refine j_iconst X dX12_unitsOf_0 ?_
  refine j_iconst X dX12_unitsOf_1 ?_
  refine lv_iload_n X.1 X.2.1 dX12_unitsOf_2 rfl (lv_at hl 0 rfl) ?_
  refine j_imul X dX12_unitsOf_3 ?_
  refine j_iadd X dX12_unitsOf_4 ?_
  exact k_ir X rfl h hw dX12_unitsOf_5
end
section
variable {p : Program} {l : Launch} {e : Env} {s : State} {m : MethodId} {args : Array Value} {below : List Frame} {meth : Method} {c : Code} {D : va_G} {ct : Nat → ClassId} {ad : Nat → Nat → Nat} {L : List (Nat × Nat)} {φ : Nat → Nat → Nat → Bool} {N0 : Nat}
variable {Q : Int → St → Prop}
theorem pd_X12_wideAt : yX12_wideAt.cls ≠ "java/lang/invoke/MethodHandle" ∧ yX12_wideAt.cls ≠ "java/lang/invoke/VarHandle" ∧ (parseMethodDescriptor yX12_wideAt.desc).map (fun d => d.parameters.length) = some 3 := by decide +kernel
set_option maxRecDepth 100000 in
set_option maxHeartbeats 4000000 in
theorem c_X12_wideAt (l : Launch) (D : va_G) (ct : Nat → ClassId) (ad : Nat → Nat → Nat) (L : List (Nat × Nat)) (φ : Nat → Nat → Nat → Bool) (N0 : Nat) (σ : St) (x1 : Int) (x2 : Int) (x3 : Int) (Q : Int → St → Prop) (hw : wp_X12_wideAt σ x1 x2 x3 Q) : Met l yX12_wideAt (.code yX12_wideAt cX12_wideAt 5 (some .int) :: gw) ({ frames := 0, cells := 0, slots := 0, locals := 0 } : Room) (Pm D ct ad L φ N0 σ [.ref (ad 12 0), .int (iv x1), .int (iv x2), .int (iv x3)]) (Qi D ct ad L φ N0 Q) 0 0 (AA N0) := by
  refine m_of (by decide) (fun p e s m below meth c X hnm h => ?_)
  have hF := X.2.2.2.2.2.2.2.2.1
  have hl := lv_entry ([.ref (ad 12 0), .int (iv x1), .int (iv x2), .int (iv x3)]) (n := 5) (Nat.le_of_ble_eq_true rfl)
  rw [lg_entry_eq]
  generalize (lg_sl ([.ref (ad 12 0), .int (iv x1), .int (iv x2), .int (iv x3)]) ++ List.replicate (5 - (lg_sl ([.ref (ad 12 0), .int (iv x1), .int (iv x2), .int (iv x3)])).length) Slot.unset).toArray = ls at hl ⊢
  have hl : lv_has ls 5 [(0, .ref (ad 12 0)), (1, .int (iv x1)), (2, .int (iv x2)), (3, .int (iv x3))] := hl
  have h : Hs D ct ad L φ N0 s.heap σ s.heap [] := h
  unfold wp_X12_wideAt at hw
  refine j_bipush X dX12_wideAt_0 (by decide) ?_
  refine j_bipush X dX12_wideAt_2 (by decide) ?_
  refine lv_iload_n X.1 X.2.1 dX12_wideAt_4 rfl (lv_at hl 2 rfl) ?_
  refine j_imul X dX12_wideAt_5 ?_
  refine j_iadd X dX12_wideAt_6 ?_
  refine lv_iload_n X.1 X.2.1 dX12_wideAt_7 rfl (lv_at hl 1 rfl) ?_
  refine j_iadd X dX12_wideAt_8 ?_
  refine lv_aload_n X.1 X.2.1 dX12_wideAt_9 rfl (lv_at hl 0 rfl) ?_
  refine r_getR (ci := 12) X inw_12 h (hF.1 12 rfl).1 rfl rfl 6 (by decide) kw_1644 rfl ((hF.1 12 rfl).2 6) dX12_wideAt_10 ?_
  refine lv_iload_n X.1 X.2.1 dX12_wideAt_13 rfl (lv_at hl 1 rfl) ?_
  obtain ⟨g_1, g_2, hw⟩ := hw
  refine r_iald (n := 4) X h (hF.1 87 rfl).1 rfl (by decide) g_1 g_2 dX12_wideAt_14 ?_
  refine lv_iload_n X.1 X.2.1 dX12_wideAt_15 rfl (lv_at hl 3 rfl) ?_
  refine j_imul X dX12_wideAt_16 ?_
  refine j_isub X dX12_wideAt_17 ?_
  refine j_bind (fun v_3 ev_3 => ?_)
  have hw := hw v_3 ev_3
  refine lv_istore (lv' := [(4, .int (iv v_3)), (0, .ref (ad 12 0)), (1, .int (iv x1)), (2, .int (iv x2)), (3, .int (iv x3))]) X.1 X.2.1 dX12_wideAt_18 hl (by decide) rfl (fun ls hl => ?_)
  refine lv_iload X.1 X.2.1 dX12_wideAt_20 (lv_at hl 0 rfl) ?_
  refine j_iconst X dX12_wideAt_22 ?_
  obtain ⟨g_4, hwt, hwf⟩ := hw
  refine j_cmp_ge (tgt := 30) X g_4 ⟨by decide, by decide⟩ dX12_wideAt_23 (by decide) (fun c_5 => ?_) (fun c_5 => ?_)
  · have hw := hwt c_5
    refine lv_iload X.1 X.2.1 dX12_wideAt_30 (lv_at hl 0 rfl) ?_
    exact k_ir X rfl h hw dX12_wideAt_32
  · have hw := hwf c_5
    refine j_iconst X dX12_wideAt_26 ?_
    refine lv_goto (tgt := 32) X.1 X.2.1 dX12_wideAt_27 (by decide) ?_
    exact k_ir X rfl h hw dX12_wideAt_32
end
section
variable {p : Program} {l : Launch} {e : Env} {s : State} {m : MethodId} {args : Array Value} {below : List Frame} {meth : Method} {c : Code} {D : va_G} {ct : Nat → ClassId} {ad : Nat → Nat → Nat} {L : List (Nat × Nat)} {φ : Nat → Nat → Nat → Bool} {N0 : Nat}
variable {Q : Int → St → Prop}
theorem pd_X12_price : yX12_price.cls ≠ "java/lang/invoke/MethodHandle" ∧ yX12_price.cls ≠ "java/lang/invoke/VarHandle" ∧ (parseMethodDescriptor yX12_price.desc).map (fun d => d.parameters.length) = some 2 := by decide +kernel
set_option maxRecDepth 100000 in
set_option maxHeartbeats 4000000 in
theorem c_X12_price (l : Launch) (D : va_G) (ct : Nat → ClassId) (ad : Nat → Nat → Nat) (L : List (Nat × Nat)) (φ : Nat → Nat → Nat → Bool) (N0 : Nat) (σ : St) (x1 : Int) (x2 : Int) (Q : Int → St → Prop) (hw : wp_X12_price σ x1 x2 Q) : Met l yX12_price (.code yX12_price cX12_price 3 (some .boolean) :: gw) ({ frames := 1, cells := 0, slots := 0, locals := 22 } : Room) (Pm D ct ad L φ N0 σ [.ref (ad 12 0), .int (iv x1), .int (iv x2)]) (Qi D ct ad L φ N0 Q) 0 0 (AA N0) := by
  refine m_of (by decide) (fun p e s m below meth c X hnm h => ?_)
  have hF := X.2.2.2.2.2.2.2.2.1
  have hl := lv_entry ([.ref (ad 12 0), .int (iv x1), .int (iv x2)]) (n := 3) (Nat.le_of_ble_eq_true rfl)
  rw [lg_entry_eq]
  generalize (lg_sl ([.ref (ad 12 0), .int (iv x1), .int (iv x2)]) ++ List.replicate (3 - (lg_sl ([.ref (ad 12 0), .int (iv x1), .int (iv x2)])).length) Slot.unset).toArray = ls at hl ⊢
  have hl : lv_has ls 3 [(0, .ref (ad 12 0)), (1, .int (iv x1)), (2, .int (iv x2))] := hl
  have h : Hs D ct ad L φ N0 s.heap σ s.heap [] := h
  unfold wp_X12_price at hw
  refine lv_aload_n X.1 X.2.1 dX12_price_0 rfl (lv_at hl 0 rfl) ?_
  refine j_iconst X dX12_price_1 ?_
  refine r_put (ci := 12) X inw_12 tyX12 tyX12_ok nmX12 h (hF.1 12 rfl).1 rfl rfl 0 (by decide) kw_1638 rfl rfl rfl (Nat.le_of_ble_eq_true rfl) rfl rfl dX12_price_2 (fun H locs h => ?_)
  obtain ⟨σ_1, eσ_1⟩ : ∃ z : St, z = st σ 12 0 0 0 := ⟨_, rfl⟩
  rw [← eσ_1] at h
  have hw := hw σ_1 eσ_1
  refine lv_iload_n X.1 X.2.1 dX12_price_5 rfl (lv_at hl 1 rfl) ?_
  refine j_iconst X dX12_price_6 ?_
  refine j_bipush X dX12_price_7 (by decide) ?_
  refine k_i h (r_S (As := [.int (iv x1), .int (iv 2), .int (iv 6)]) (rest := []) X h (c_X12_within l D ct ad L φ N0 σ_1 x1 2 6 _ hw) rfl rfl ⟨Nat.le_of_ble_eq_true rfl, Nat.le_of_ble_eq_true rfl⟩ kw_1959 kw_1960 kw_129 kw_1961 pd_X12_within rfl hl.1 rfl (Nat.le_of_ble_eq_true rfl) ⟨Nat.le_of_ble_eq_true rfl, Nat.le_of_ble_eq_true rfl⟩ dX12_price_9) (fun r_3 σ_2 H locs hw h => ?_)
  obtain ⟨g_4, hwt, hwf⟩ := hw
  refine j_if_eq (tgt := 25) X g_4 dX12_price_12 (by decide) (fun c_12 => ?_) (fun c_12 => ?_)
  · have hw := hwt c_12
    refine j_iconst X dX12_price_25 ?_
    exact k_ir X rfl h hw dX12_price_26
  · have hw := hwf c_12
    refine lv_iload_n X.1 X.2.1 dX12_price_15 rfl (lv_at hl 2 rfl) ?_
    refine j_iconst X dX12_price_16 ?_
    refine j_bipush X dX12_price_17 (by decide) ?_
    refine k_i h (r_S (As := [.int (iv x2), .int (iv 0), .int (iv 99)]) (rest := []) X h (c_X12_within l D ct ad L φ N0 σ_2 x2 0 99 _ hw) rfl rfl ⟨Nat.le_of_ble_eq_true rfl, Nat.le_of_ble_eq_true rfl⟩ kw_1959 kw_1960 kw_129 kw_1961 pd_X12_within rfl hl.1 rfl (Nat.le_of_ble_eq_true rfl) ⟨Nat.le_of_ble_eq_true rfl, Nat.le_of_ble_eq_true rfl⟩ dX12_price_19) (fun r_6 σ_5 H locs hw h => ?_)
    obtain ⟨g_7, hwt, hwf⟩ := hw
    refine j_if_ne (tgt := 27) X g_7 dX12_price_22 (by decide) (fun c_11 => ?_) (fun c_11 => ?_)
    · have hw := hwt c_11
      refine lv_aload_n X.1 X.2.1 dX12_price_27 rfl (lv_at hl 0 rfl) ?_
      refine r_getR (ci := 12) X inw_12 h (hF.1 12 rfl).1 rfl rfl 13 (by decide) kw_1651 rfl ((hF.1 12 rfl).2 13) dX12_price_28 ?_
      refine lv_iload_n X.1 X.2.1 dX12_price_31 rfl (lv_at hl 1 rfl) ?_
      refine lv_iload_n X.1 X.2.1 dX12_price_32 rfl (lv_at hl 2 rfl) ?_
      obtain ⟨g_8, g_9, hw⟩ := hw
      refine r_iast (n := 7) X h (hF.1 92 rfl).1 (fun _ => rfl) (by decide) g_8 g_9 rfl dX12_price_33 (fun H locs h => ?_)
      obtain ⟨σ_10, eσ_10⟩ : ∃ z : St, z = st σ_5 92 0 (Int.toNat x1) x2 := ⟨_, rfl⟩
      rw [← eσ_10] at h
      have hw := hw σ_10 eσ_10
      refine j_iconst X dX12_price_34 ?_
      exact k_ir X rfl h hw dX12_price_35
    · have hw := hwf c_11
      refine j_iconst X dX12_price_25 ?_
      exact k_ir X rfl h hw dX12_price_26
end
section
variable {p : Program} {l : Launch} {e : Env} {s : State} {m : MethodId} {args : Array Value} {below : List Frame} {meth : Method} {c : Code} {D : va_G} {ct : Nat → ClassId} {ad : Nat → Nat → Nat} {L : List (Nat × Nat)} {φ : Nat → Nat → Nat → Bool} {N0 : Nat}
variable {Q : Int → St → Prop}
set_option maxRecDepth 100000 in
set_option maxHeartbeats 4000000 in
theorem lb_X12_bucks_254 (X : Cx p s m meth c args cX12_bucks 7 (some .int) RX12 D ct L φ N0) (σ : St) (H : Heap) (locs : List Loc) (ls : Array Slot) (hw : wp_X12_bucks_254 Q σ) (h : Hs D ct ad L φ N0 s.heap σ H locs) (hl : lv_has ls 7 [(0, .ref (ad 12 0))]) : W p l e ({ frames := 1, cells := 0, slots := 0, locals := 24 } : Room) s m args below meth c H locs 0 0 (MQ below (Qi D ct ad L φ N0 Q) args s 0 0 (AA N0)) (F0 m 254 ls []) := by
  have hF := X.2.2.2.2.2.2.2.2.1
  unfold wp_X12_bucks_254 at hw
  refine lv_aload_n X.1 X.2.1 dX12_bucks_254 rfl (lv_at hl 0 rfl) ?_
  refine r_getR (ci := 12) X inw_12 h (hF.1 12 rfl).1 rfl rfl 16 (by decide) kw_1654 rfl ((hF.1 12 rfl).2 16) dX12_bucks_255 ?_
  refine j_iconst X dX12_bucks_258 ?_
  refine r_iald (n := 11) X h (hF.1 94 rfl).1 rfl (by decide) (by decide) (by decide) dX12_bucks_259 ?_
  exact k_ir X rfl h hw dX12_bucks_260
set_option maxRecDepth 100000 in
set_option maxHeartbeats 4000000 in
theorem lb_X12_bucks_223 (X : Cx p s m meth c args cX12_bucks 7 (some .int) RX12 D ct L φ N0) {K152 : St → Int → Int → Int → Int → Prop} {K254 : St → Prop} (hK152 : ∀ (σ : St) (x1 : Int) (x2 : Int) (x3 : Int) (x4 : Int) (H : Heap) (locs : List Loc) (ls : Array Slot), K152 σ x1 x2 x3 x4 → Hs D ct ad L φ N0 s.heap σ H locs → lv_has ls 7 [(0, .ref (ad 12 0)), (1, .int (iv x1)), (2, .int (iv x2)), (3, .int (iv x3)), (4, .int (iv x4))] → W p l e ({ frames := 1, cells := 0, slots := 0, locals := 24 } : Room) s m args below meth c H locs 0 0 (MQ below (Qi D ct ad L φ N0 Q) args s 0 0 (AA N0)) (F0 m 152 ls [])) (hK254 : ∀ (σ : St) (H : Heap) (locs : List Loc) (ls : Array Slot), K254 σ → Hs D ct ad L φ N0 s.heap σ H locs → lv_has ls 7 [(0, .ref (ad 12 0))] → W p l e ({ frames := 1, cells := 0, slots := 0, locals := 24 } : Room) s m args below meth c H locs 0 0 (MQ below (Qi D ct ad L φ N0 Q) args s 0 0 (AA N0)) (F0 m 254 ls [])) (σ : St) (x1 : Int) (x2 : Int) (x3 : Int) (x4 : Int) (x5 : Int) (H : Heap) (locs : List Loc) (ls : Array Slot) (hw : wp_X12_bucks_223 K152 K254 Q σ x1 x2 x3 x4 x5) (h : Hs D ct ad L φ N0 s.heap σ H locs) (hl : lv_has ls 7 [(0, .ref (ad 12 0)), (1, .int (iv x1)), (2, .int (iv x2)), (3, .int (iv x3)), (4, .int (iv x4)), (5, .int (iv x5))]) : W p l e ({ frames := 1, cells := 0, slots := 0, locals := 24 } : Room) s m args below meth c H locs 0 0 (MQ below (Qi D ct ad L φ N0 Q) args s 0 0 (AA N0)) (F0 m 223 ls []) := by
  have hF := X.2.2.2.2.2.2.2.2.1
  unfold wp_X12_bucks_223 at hw
  refine lv_aload_n X.1 X.2.1 dX12_bucks_223 rfl (lv_at hl 0 rfl) ?_
  refine r_getR (ci := 12) X inw_12 h (hF.1 12 rfl).1 rfl rfl 14 (by decide) kw_1652 rfl ((hF.1 12 rfl).2 14) dX12_bucks_224 ?_
  refine lv_aload_n X.1 X.2.1 dX12_bucks_227 rfl (lv_at hl 0 rfl) ?_
  refine r_get (ci := 12) X inw_12 h (hF.1 12 rfl).1 rfl rfl 15 (by decide) kw_1653 rfl dX12_bucks_228 ?_
  refine lv_iload X.1 X.2.1 dX12_bucks_231 (lv_at hl 5 rfl) ?_
  obtain ⟨g_1, g_2, hw⟩ := hw
  refine r_iast (n := 8) X h (hF.1 93 rfl).1 (fun _ => rfl) (by decide) g_1 g_2 rfl dX12_bucks_233 (fun H locs h => ?_)
  obtain ⟨σ_3, eσ_3⟩ : ∃ z : St, z = st σ 93 0 (Int.toNat (σ 12 0 15)) x5 := ⟨_, rfl⟩
  rw [← eσ_3] at h
  have hw := hw σ_3 eσ_3
  refine lv_aload_n X.1 X.2.1 dX12_bucks_234 rfl (lv_at hl 0 rfl) ?_
  refine lv_dup X.1 X.2.1 dX12_bucks_235 rfl ?_
  refine r_get (ci := 12) X inw_12 h (hF.1 12 rfl).1 rfl rfl 15 (by decide) kw_1653 rfl dX12_bucks_236 ?_
  refine j_iconst X dX12_bucks_239 ?_
  refine j_iadd X dX12_bucks_240 ?_
  refine r_put (ci := 12) X inw_12 tyX12 tyX12_ok nmX12 h (hF.1 12 rfl).1 rfl rfl 15 (by decide) kw_1653 rfl rfl rfl (Nat.le_of_ble_eq_true rfl) rfl rfl dX12_bucks_241 (fun H locs h => ?_)
  obtain ⟨σ_4, eσ_4⟩ : ∃ z : St, z = st σ_3 12 0 15 ((σ_3 12 0 15) + 1) := ⟨_, rfl⟩
  rw [← eσ_4] at h
  have hw := hw σ_4 eσ_4
  refine lv_iload X.1 X.2.1 dX12_bucks_244 (lv_at hl 4 rfl) ?_
  refine lv_iload X.1 X.2.1 dX12_bucks_246 (lv_at hl 5 rfl) ?_
  refine j_iadd X dX12_bucks_248 ?_
  refine j_bind (fun v_5 ev_5 => ?_)
  have hw := hw v_5 ev_5
  refine lv_istore (lv' := [(4, .int (iv v_5)), (0, .ref (ad 12 0)), (1, .int (iv x1)), (2, .int (iv x2)), (3, .int (iv x3)), (5, .int (iv x5))]) X.1 X.2.1 dX12_bucks_249 hl (by decide) rfl (fun ls hl => ?_)
  refine lv_goto (tgt := 152) X.1 X.2.1 dX12_bucks_251 (by decide) ?_
  exact hK152 σ_4 x1 x2 x3 v_5 _ _ _ hw h (lv_sub hl [1, 2, 3, 4, 0] rfl)
set_option maxRecDepth 100000 in
set_option maxHeartbeats 4000000 in
theorem lb_X12_bucks_217 (X : Cx p s m meth c args cX12_bucks 7 (some .int) RX12 D ct L φ N0) {K163 : St → Int → Int → Int → Int → Int → Prop} {K223 : St → Int → Int → Int → Int → Int → Prop} (hK163 : ∀ (σ : St) (x1 : Int) (x2 : Int) (x3 : Int) (x4 : Int) (x5 : Int) (H : Heap) (locs : List Loc) (ls : Array Slot), K163 σ x1 x2 x3 x4 x5 → Hs D ct ad L φ N0 s.heap σ H locs → lv_has ls 7 [(0, .ref (ad 12 0)), (1, .int (iv x1)), (2, .int (iv x2)), (3, .int (iv x3)), (4, .int (iv x4)), (5, .int (iv x5))] → W p l e ({ frames := 1, cells := 0, slots := 0, locals := 24 } : Room) s m args below meth c H locs 0 0 (MQ below (Qi D ct ad L φ N0 Q) args s 0 0 (AA N0)) (F0 m 163 ls [])) (hK223 : ∀ (σ : St) (x1 : Int) (x2 : Int) (x3 : Int) (x4 : Int) (x5 : Int) (H : Heap) (locs : List Loc) (ls : Array Slot), K223 σ x1 x2 x3 x4 x5 → Hs D ct ad L φ N0 s.heap σ H locs → lv_has ls 7 [(0, .ref (ad 12 0)), (1, .int (iv x1)), (2, .int (iv x2)), (3, .int (iv x3)), (4, .int (iv x4)), (5, .int (iv x5))] → W p l e ({ frames := 1, cells := 0, slots := 0, locals := 24 } : Room) s m args below meth c H locs 0 0 (MQ below (Qi D ct ad L φ N0 Q) args s 0 0 (AA N0)) (F0 m 223 ls [])) (σ : St) (x1 : Int) (x2 : Int) (x3 : Int) (x4 : Int) (x5 : Int) (H : Heap) (locs : List Loc) (ls : Array Slot) (hw : wp_X12_bucks_217 K163 K223 Q σ x1 x2 x3 x4 x5) (h : Hs D ct ad L φ N0 s.heap σ H locs) (hl : lv_has ls 7 [(0, .ref (ad 12 0)), (1, .int (iv x1)), (2, .int (iv x2)), (3, .int (iv x3)), (4, .int (iv x4)), (5, .int (iv x5))]) : W p l e ({ frames := 1, cells := 0, slots := 0, locals := 24 } : Room) s m args below meth c H locs 0 0 (MQ below (Qi D ct ad L φ N0 Q) args s 0 0 (AA N0)) (F0 m 217 ls []) := by
  have hF := X.2.2.2.2.2.2.2.2.1
  unfold wp_X12_bucks_217 at hw
  refine j_iinc (kk9 := 5) (lv' := [(5, .int (iv (x5 + 1))), (0, .ref (ad 12 0)), (1, .int (iv x1)), (2, .int (iv x2)), (3, .int (iv x3)), (4, .int (iv x4))]) X dX12_bucks_217 hl rfl (by decide) rfl (fun ls hl => ?_)
  refine lv_goto (tgt := 163) X.1 X.2.1 dX12_bucks_220 (by decide) ?_
  exact hK163 σ x1 x2 x3 x4 (x5 + 1) _ _ _ hw h (lv_sub hl [1, 2, 3, 4, 5, 0] rfl)
set_option maxRecDepth 100000 in
set_option maxHeartbeats 4000000 in
theorem lb_X12_bucks_163 (X : Cx p s m meth c args cX12_bucks 7 (some .int) RX12 D ct L φ N0) {K223 : St → Int → Int → Int → Int → Int → Prop} (hK223 : ∀ (σ : St) (x1 : Int) (x2 : Int) (x3 : Int) (x4 : Int) (x5 : Int) (H : Heap) (locs : List Loc) (ls : Array Slot), K223 σ x1 x2 x3 x4 x5 → Hs D ct ad L φ N0 s.heap σ H locs → lv_has ls 7 [(0, .ref (ad 12 0)), (1, .int (iv x1)), (2, .int (iv x2)), (3, .int (iv x3)), (4, .int (iv x4)), (5, .int (iv x5))] → W p l e ({ frames := 1, cells := 0, slots := 0, locals := 24 } : Room) s m args below meth c H locs 0 0 (MQ below (Qi D ct ad L φ N0 Q) args s 0 0 (AA N0)) (F0 m 223 ls [])) : ∀ (n : Nat) (σ : St) (x1 : Int) (x2 : Int) (x3 : Int) (x4 : Int) (x5 : Int) (H : Heap) (locs : List Loc) (ls : Array Slot), wp_X12_bucks_163 K223 Q n σ x1 x2 x3 x4 x5 → Hs D ct ad L φ N0 s.heap σ H locs → lv_has ls 7 [(0, .ref (ad 12 0)), (1, .int (iv x1)), (2, .int (iv x2)), (3, .int (iv x3)), (4, .int (iv x4)), (5, .int (iv x5))] → W p l e ({ frames := 1, cells := 0, slots := 0, locals := 24 } : Room) s m args below meth c H locs 0 0 (MQ below (Qi D ct ad L φ N0 Q) args s 0 0 (AA N0)) (F0 m 163 ls []) := by
  have hF := X.2.2.2.2.2.2.2.2.1
  intro n
  induction n with
  | zero => intro σ x1 x2 x3 x4 x5 H locs ls hw; exact hw.elim
  | succ n ih =>
    intro σ x1 x2 x3 x4 x5 H locs ls hw h hl
    unfold wp_X12_bucks_163 at hw
    refine lv_aload_n X.1 X.2.1 dX12_bucks_163 rfl (lv_at hl 0 rfl) ?_
    refine r_getR (ci := 12) X inw_12 h (hF.1 12 rfl).1 rfl rfl 16 (by decide) kw_1654 rfl ((hF.1 12 rfl).2 16) dX12_bucks_164 ?_
    refine lv_iload X.1 X.2.1 dX12_bucks_167 (lv_at hl 4 rfl) ?_
    refine lv_iload X.1 X.2.1 dX12_bucks_169 (lv_at hl 5 rfl) ?_
    refine j_iadd X dX12_bucks_171 ?_
    obtain ⟨g_6, g_7, hw⟩ := hw
    refine r_iald (n := 11) X h (hF.1 94 rfl).1 rfl (by decide) g_6 g_7 dX12_bucks_172 ?_
    refine j_iconst X dX12_bucks_173 ?_
    obtain ⟨g_8, hwt, hwf⟩ := hw
    refine j_cmp_eq (tgt := 217) X g_8 ⟨by decide, by decide⟩ dX12_bucks_174 (by decide) (fun c_20 => ?_) (fun c_20 => ?_)
    · have hw := hwt c_20
      exact lb_X12_bucks_217 X ih hK223 σ x1 x2 x3 x4 x5 _ _ _ hw h (lv_sub hl [0, 1, 2, 3, 4, 5] rfl)
    · have hw := hwf c_20
      refine lv_aload_n X.1 X.2.1 dX12_bucks_177 rfl (lv_at hl 0 rfl) ?_
      refine r_getR (ci := 12) X inw_12 h (hF.1 12 rfl).1 rfl rfl 13 (by decide) kw_1651 rfl ((hF.1 12 rfl).2 13) dX12_bucks_178 ?_
      refine lv_iload X.1 X.2.1 dX12_bucks_181 (lv_at hl 5 rfl) ?_
      obtain ⟨g_9, g_10, hw⟩ := hw
      refine r_iald (n := 7) X h (hF.1 92 rfl).1 rfl (by decide) g_9 g_10 dX12_bucks_183 ?_
      refine lv_aload_n X.1 X.2.1 dX12_bucks_184 rfl (lv_at hl 0 rfl) ?_
      refine lv_iload_n X.1 X.2.1 dX12_bucks_185 rfl (lv_at hl 1 rfl) ?_
      refine lv_iload_n X.1 X.2.1 dX12_bucks_186 rfl (lv_at hl 2 rfl) ?_
      refine lv_iload X.1 X.2.1 dX12_bucks_187 (lv_at hl 4 rfl) ?_
      refine lv_iload X.1 X.2.1 dX12_bucks_189 (lv_at hl 5 rfl) ?_
      refine j_iadd X dX12_bucks_191 ?_
      refine k_i h (r_V (C := RX12) (ci := 12) (As := [.int (iv x1), .int (iv x2), .int (iv (x4 + x5))]) (rest := [.int (iv (σ 92 0 (Int.toNat x5)))]) X h (c_X12_wideAt l D ct ad L φ N0 σ x1 x2 (x4 + x5) _ hw) rfl rfl ⟨Nat.le_of_ble_eq_true rfl, Nat.le_of_ble_eq_true rfl⟩ kw_2007 kw_2009 kw_67 kw_129 kw_2010 ⟨rfl, pd_X12_wideAt⟩ (hF.1 12 rfl).1 rfl rfl rfl hl.1 rfl (Nat.le_of_ble_eq_true rfl) ⟨Nat.le_of_ble_eq_true rfl, Nat.le_of_ble_eq_true rfl⟩ dX12_bucks_192) (fun r_12 σ_11 H locs hw h => ?_)
      refine j_imul X dX12_bucks_195 ?_
      refine lv_aload_n X.1 X.2.1 dX12_bucks_196 rfl (lv_at hl 0 rfl) ?_
      refine r_getR (ci := 12) X inw_12 h (hF.1 12 rfl).1 rfl rfl 16 (by decide) kw_1654 rfl ((hF.1 12 rfl).2 16) dX12_bucks_197 ?_
      refine lv_iload X.1 X.2.1 dX12_bucks_200 (lv_at hl 4 rfl) ?_
      refine lv_iload X.1 X.2.1 dX12_bucks_202 (lv_at hl 5 rfl) ?_
      refine j_iadd X dX12_bucks_204 ?_
      obtain ⟨g_13, g_14, hw⟩ := hw
      refine r_iald (n := 11) X h (hF.1 94 rfl).1 rfl (by decide) g_13 g_14 dX12_bucks_205 ?_
      refine j_iadd X dX12_bucks_206 ?_
      refine lv_aload_n X.1 X.2.1 dX12_bucks_207 rfl (lv_at hl 0 rfl) ?_
      refine r_getR (ci := 12) X inw_12 h (hF.1 12 rfl).1 rfl rfl 16 (by decide) kw_1654 rfl ((hF.1 12 rfl).2 16) dX12_bucks_208 ?_
      refine lv_iload X.1 X.2.1 dX12_bucks_211 (lv_at hl 4 rfl) ?_
      obtain ⟨g_15, g_16, hw⟩ := hw
      refine r_iald (n := 11) X h (hF.1 94 rfl).1 rfl (by decide) g_15 g_16 dX12_bucks_213 ?_
      obtain ⟨g_17, g_18, hwt, hwf⟩ := hw
      refine j_cmp_eq (tgt := 223) X g_17 g_18 dX12_bucks_214 (by decide) (fun c_19 => ?_) (fun c_19 => ?_)
      · have hw := hwt c_19
        exact hK223 σ_11 x1 x2 x3 x4 x5 _ _ _ hw h (lv_sub hl [0, 1, 2, 3, 4, 5] rfl)
      · have hw := hwf c_19
        exact lb_X12_bucks_217 X ih hK223 σ_11 x1 x2 x3 x4 x5 _ _ _ hw h (lv_sub hl [0, 1, 2, 3, 4, 5] rfl)
set_option maxRecDepth 100000 in
set_option maxHeartbeats 4000000 in
theorem lb_X12_bucks_152 (X : Cx p s m meth c args cX12_bucks 7 (some .int) RX12 D ct L φ N0) {K254 : St → Prop} (hK254 : ∀ (σ : St) (H : Heap) (locs : List Loc) (ls : Array Slot), K254 σ → Hs D ct ad L φ N0 s.heap σ H locs → lv_has ls 7 [(0, .ref (ad 12 0))] → W p l e ({ frames := 1, cells := 0, slots := 0, locals := 24 } : Room) s m args below meth c H locs 0 0 (MQ below (Qi D ct ad L φ N0 Q) args s 0 0 (AA N0)) (F0 m 254 ls [])) : ∀ (n : Nat) (σ : St) (x1 : Int) (x2 : Int) (x3 : Int) (x4 : Int) (H : Heap) (locs : List Loc) (ls : Array Slot), wp_X12_bucks_152 K254 Q n σ x1 x2 x3 x4 → Hs D ct ad L φ N0 s.heap σ H locs → lv_has ls 7 [(0, .ref (ad 12 0)), (1, .int (iv x1)), (2, .int (iv x2)), (3, .int (iv x3)), (4, .int (iv x4))] → W p l e ({ frames := 1, cells := 0, slots := 0, locals := 24 } : Room) s m args below meth c H locs 0 0 (MQ below (Qi D ct ad L φ N0 Q) args s 0 0 (AA N0)) (F0 m 152 ls []) := by
  have hF := X.2.2.2.2.2.2.2.2.1
  intro n
  induction n with
  | zero => intro σ x1 x2 x3 x4 H locs ls hw; exact hw.elim
  | succ n ih =>
    intro σ x1 x2 x3 x4 H locs ls hw h hl
    unfold wp_X12_bucks_152 at hw
    refine lv_iload_n X.1 X.2.1 dX12_bucks_152 rfl (lv_at hl 3 rfl) ?_
    refine lv_iload X.1 X.2.1 dX12_bucks_153 (lv_at hl 4 rfl) ?_
    refine j_isub X dX12_bucks_155 ?_
    refine j_iconst X dX12_bucks_156 ?_
    obtain ⟨g_21, hwt, hwf⟩ := hw
    refine j_cmp_lt (tgt := 254) X g_21 ⟨by decide, by decide⟩ dX12_bucks_157 (by decide) (fun c_22 => ?_) (fun c_22 => ?_)
    · have hw := hwt c_22
      exact hK254 σ _ _ _ hw h (lv_sub hl [0] rfl)
    · have hw := hwf c_22
      refine j_iconst X dX12_bucks_160 ?_
      refine lv_istore (lv' := [(5, .int (iv 2)), (0, .ref (ad 12 0)), (1, .int (iv x1)), (2, .int (iv x2)), (3, .int (iv x3)), (4, .int (iv x4))]) X.1 X.2.1 dX12_bucks_161 hl (by decide) rfl (fun ls hl => ?_)
      exact hw.elim (fun n163 hw => lb_X12_bucks_163 X (lb_X12_bucks_223 X ih hK254) n163 σ x1 x2 x3 x4 2 _ _ _ hw h (lv_sub hl [1, 2, 3, 4, 5, 0] rfl))
set_option maxRecDepth 100000 in
set_option maxHeartbeats 4000000 in
theorem lb_X12_bucks_144 (X : Cx p s m meth c args cX12_bucks 7 (some .int) RX12 D ct L φ N0) (σ : St) (x1 : Int) (x2 : Int) (x3 : Int) (H : Heap) (locs : List Loc) (ls : Array Slot) (hw : wp_X12_bucks_144 Q σ x1 x2 x3) (h : Hs D ct ad L φ N0 s.heap σ H locs) (hl : lv_has ls 7 [(0, .ref (ad 12 0)), (1, .int (iv x1)), (2, .int (iv x2)), (3, .int (iv x3))]) : W p l e ({ frames := 1, cells := 0, slots := 0, locals := 24 } : Room) s m args below meth c H locs 0 0 (MQ below (Qi D ct ad L φ N0 Q) args s 0 0 (AA N0)) (F0 m 144 ls []) := by
  have hF := X.2.2.2.2.2.2.2.2.1
  unfold wp_X12_bucks_144 at hw
  refine lv_aload_n X.1 X.2.1 dX12_bucks_144 rfl (lv_at hl 0 rfl) ?_
  refine j_iconst X dX12_bucks_145 ?_
  refine r_put (ci := 12) X inw_12 tyX12 tyX12_ok nmX12 h (hF.1 12 rfl).1 rfl rfl 15 (by decide) kw_1653 rfl rfl rfl (Nat.le_of_ble_eq_true rfl) rfl rfl dX12_bucks_146 (fun H locs h => ?_)
  obtain ⟨σ_23, eσ_23⟩ : ∃ z : St, z = st σ 12 0 15 0 := ⟨_, rfl⟩
  rw [← eσ_23] at h
  have hw := hw σ_23 eσ_23
  refine j_iconst X dX12_bucks_149 ?_
  refine lv_istore (lv' := [(4, .int (iv 0)), (0, .ref (ad 12 0)), (1, .int (iv x1)), (2, .int (iv x2)), (3, .int (iv x3))]) X.1 X.2.1 dX12_bucks_150 hl (by decide) rfl (fun ls hl => ?_)
  exact hw.elim (fun n152 hw => lb_X12_bucks_152 X (lb_X12_bucks_254 X) n152 σ_23 x1 x2 x3 0 _ _ _ hw h (lv_sub hl [1, 2, 3, 4, 0] rfl))
set_option maxRecDepth 100000 in
set_option maxHeartbeats 4000000 in
theorem lb_X12_bucks_138 (X : Cx p s m meth c args cX12_bucks 7 (some .int) RX12 D ct L φ N0) {K8 : St → Int → Int → Int → Int → Prop} {K144 : St → Int → Int → Int → Prop} (hK8 : ∀ (σ : St) (x1 : Int) (x2 : Int) (x3 : Int) (x4 : Int) (H : Heap) (locs : List Loc) (ls : Array Slot), K8 σ x1 x2 x3 x4 → Hs D ct ad L φ N0 s.heap σ H locs → lv_has ls 7 [(0, .ref (ad 12 0)), (1, .int (iv x1)), (2, .int (iv x2)), (3, .int (iv x3)), (4, .int (iv x4))] → W p l e ({ frames := 1, cells := 0, slots := 0, locals := 24 } : Room) s m args below meth c H locs 0 0 (MQ below (Qi D ct ad L φ N0 Q) args s 0 0 (AA N0)) (F0 m 8 ls [])) (hK144 : ∀ (σ : St) (x1 : Int) (x2 : Int) (x3 : Int) (H : Heap) (locs : List Loc) (ls : Array Slot), K144 σ x1 x2 x3 → Hs D ct ad L φ N0 s.heap σ H locs → lv_has ls 7 [(0, .ref (ad 12 0)), (1, .int (iv x1)), (2, .int (iv x2)), (3, .int (iv x3))] → W p l e ({ frames := 1, cells := 0, slots := 0, locals := 24 } : Room) s m args below meth c H locs 0 0 (MQ below (Qi D ct ad L φ N0 Q) args s 0 0 (AA N0)) (F0 m 144 ls [])) (σ : St) (x1 : Int) (x2 : Int) (x3 : Int) (x4 : Int) (H : Heap) (locs : List Loc) (ls : Array Slot) (hw : wp_X12_bucks_138 K8 K144 Q σ x1 x2 x3 x4) (h : Hs D ct ad L φ N0 s.heap σ H locs) (hl : lv_has ls 7 [(0, .ref (ad 12 0)), (1, .int (iv x1)), (2, .int (iv x2)), (3, .int (iv x3)), (4, .int (iv x4))]) : W p l e ({ frames := 1, cells := 0, slots := 0, locals := 24 } : Room) s m args below meth c H locs 0 0 (MQ below (Qi D ct ad L φ N0 Q) args s 0 0 (AA N0)) (F0 m 138 ls []) := by
  have hF := X.2.2.2.2.2.2.2.2.1
  unfold wp_X12_bucks_138 at hw
  refine j_iinc (kk9 := 4) (lv' := [(4, .int (iv (x4 + (-1)))), (0, .ref (ad 12 0)), (1, .int (iv x1)), (2, .int (iv x2)), (3, .int (iv x3))]) X dX12_bucks_138 hl rfl (by decide) rfl (fun ls hl => ?_)
  refine lv_goto (tgt := 8) X.1 X.2.1 dX12_bucks_141 (by decide) ?_
  exact hK8 σ x1 x2 x3 (x4 + (-1)) _ _ _ hw h (lv_sub hl [1, 2, 3, 4, 0] rfl)
set_option maxRecDepth 100000 in
set_option maxHeartbeats 4000000 in
theorem lb_X12_bucks_132 (X : Cx p s m meth c args cX12_bucks 7 (some .int) RX12 D ct L φ N0) {K36 : St → Int → Int → Int → Int → Int → Prop} {K138 : St → Int → Int → Int → Int → Prop} (hK36 : ∀ (σ : St) (x1 : Int) (x2 : Int) (x3 : Int) (x4 : Int) (x5 : Int) (H : Heap) (locs : List Loc) (ls : Array Slot), K36 σ x1 x2 x3 x4 x5 → Hs D ct ad L φ N0 s.heap σ H locs → lv_has ls 7 [(0, .ref (ad 12 0)), (1, .int (iv x1)), (2, .int (iv x2)), (3, .int (iv x3)), (4, .int (iv x4)), (5, .int (iv x5))] → W p l e ({ frames := 1, cells := 0, slots := 0, locals := 24 } : Room) s m args below meth c H locs 0 0 (MQ below (Qi D ct ad L φ N0 Q) args s 0 0 (AA N0)) (F0 m 36 ls [])) (hK138 : ∀ (σ : St) (x1 : Int) (x2 : Int) (x3 : Int) (x4 : Int) (H : Heap) (locs : List Loc) (ls : Array Slot), K138 σ x1 x2 x3 x4 → Hs D ct ad L φ N0 s.heap σ H locs → lv_has ls 7 [(0, .ref (ad 12 0)), (1, .int (iv x1)), (2, .int (iv x2)), (3, .int (iv x3)), (4, .int (iv x4))] → W p l e ({ frames := 1, cells := 0, slots := 0, locals := 24 } : Room) s m args below meth c H locs 0 0 (MQ below (Qi D ct ad L φ N0 Q) args s 0 0 (AA N0)) (F0 m 138 ls [])) (σ : St) (x1 : Int) (x2 : Int) (x3 : Int) (x4 : Int) (x5 : Int) (H : Heap) (locs : List Loc) (ls : Array Slot) (hw : wp_X12_bucks_132 K36 K138 Q σ x1 x2 x3 x4 x5) (h : Hs D ct ad L φ N0 s.heap σ H locs) (hl : lv_has ls 7 [(0, .ref (ad 12 0)), (1, .int (iv x1)), (2, .int (iv x2)), (3, .int (iv x3)), (4, .int (iv x4)), (5, .int (iv x5))]) : W p l e ({ frames := 1, cells := 0, slots := 0, locals := 24 } : Room) s m args below meth c H locs 0 0 (MQ below (Qi D ct ad L φ N0 Q) args s 0 0 (AA N0)) (F0 m 132 ls []) := by
  have hF := X.2.2.2.2.2.2.2.2.1
  unfold wp_X12_bucks_132 at hw
  refine j_iinc (kk9 := 5) (lv' := [(5, .int (iv (x5 + 1))), (0, .ref (ad 12 0)), (1, .int (iv x1)), (2, .int (iv x2)), (3, .int (iv x3)), (4, .int (iv x4))]) X dX12_bucks_132 hl rfl (by decide) rfl (fun ls hl => ?_)
  refine lv_goto (tgt := 36) X.1 X.2.1 dX12_bucks_135 (by decide) ?_
  exact hK36 σ x1 x2 x3 x4 (x5 + 1) _ _ _ hw h (lv_sub hl [1, 2, 3, 4, 5, 0] rfl)
set_option maxRecDepth 100000 in
set_option maxHeartbeats 4000000 in
theorem lb_X12_bucks_131 (X : Cx p s m meth c args cX12_bucks 7 (some .int) RX12 D ct L φ N0) {K36 : St → Int → Int → Int → Int → Int → Prop} {K138 : St → Int → Int → Int → Int → Prop} (hK36 : ∀ (σ : St) (x1 : Int) (x2 : Int) (x3 : Int) (x4 : Int) (x5 : Int) (H : Heap) (locs : List Loc) (ls : Array Slot), K36 σ x1 x2 x3 x4 x5 → Hs D ct ad L φ N0 s.heap σ H locs → lv_has ls 7 [(0, .ref (ad 12 0)), (1, .int (iv x1)), (2, .int (iv x2)), (3, .int (iv x3)), (4, .int (iv x4)), (5, .int (iv x5))] → W p l e ({ frames := 1, cells := 0, slots := 0, locals := 24 } : Room) s m args below meth c H locs 0 0 (MQ below (Qi D ct ad L φ N0 Q) args s 0 0 (AA N0)) (F0 m 36 ls [])) (hK138 : ∀ (σ : St) (x1 : Int) (x2 : Int) (x3 : Int) (x4 : Int) (H : Heap) (locs : List Loc) (ls : Array Slot), K138 σ x1 x2 x3 x4 → Hs D ct ad L φ N0 s.heap σ H locs → lv_has ls 7 [(0, .ref (ad 12 0)), (1, .int (iv x1)), (2, .int (iv x2)), (3, .int (iv x3)), (4, .int (iv x4))] → W p l e ({ frames := 1, cells := 0, slots := 0, locals := 24 } : Room) s m args below meth c H locs 0 0 (MQ below (Qi D ct ad L φ N0 Q) args s 0 0 (AA N0)) (F0 m 138 ls [])) (σ : St) (x1 : Int) (x2 : Int) (x3 : Int) (x4 : Int) (x5 : Int) (y0 : Int) (y1 : Int) (H : Heap) (locs : List Loc) (ls : Array Slot) (hw : wp_X12_bucks_131 K36 K138 Q σ x1 x2 x3 x4 x5 y0 y1) (h : Hs D ct ad L φ N0 s.heap σ H locs) (hl : lv_has ls 7 [(0, .ref (ad 12 0)), (1, .int (iv x1)), (2, .int (iv x2)), (3, .int (iv x3)), (4, .int (iv x4)), (5, .int (iv x5))]) : W p l e ({ frames := 1, cells := 0, slots := 0, locals := 24 } : Room) s m args below meth c H locs 0 0 (MQ below (Qi D ct ad L φ N0 Q) args s 0 0 (AA N0)) (F0 m 131 ls [.int (iv y0), .int (iv y1), .ref (ad 94 0)]) := by
  have hF := X.2.2.2.2.2.2.2.2.1
  unfold wp_X12_bucks_131 at hw
  obtain ⟨g_24, g_25, hw⟩ := hw
  refine r_iast (n := 11) X h (hF.1 94 rfl).1 (fun _ => rfl) (by decide) g_24 g_25 rfl dX12_bucks_131 (fun H locs h => ?_)
  obtain ⟨σ_26, eσ_26⟩ : ∃ z : St, z = st σ 94 0 (Int.toNat y1) y0 := ⟨_, rfl⟩
  rw [← eσ_26] at h
  have hw := hw σ_26 eσ_26
  exact lb_X12_bucks_132 X hK36 hK138 σ_26 x1 x2 x3 x4 x5 _ _ _ hw h (lv_sub hl [0, 1, 2, 3, 4, 5] rfl)
set_option maxRecDepth 100000 in
set_option maxHeartbeats 4000000 in
theorem lb_X12_bucks_36 (X : Cx p s m meth c args cX12_bucks 7 (some .int) RX12 D ct L φ N0) {K138 : St → Int → Int → Int → Int → Prop} (hK138 : ∀ (σ : St) (x1 : Int) (x2 : Int) (x3 : Int) (x4 : Int) (H : Heap) (locs : List Loc) (ls : Array Slot), K138 σ x1 x2 x3 x4 → Hs D ct ad L φ N0 s.heap σ H locs → lv_has ls 7 [(0, .ref (ad 12 0)), (1, .int (iv x1)), (2, .int (iv x2)), (3, .int (iv x3)), (4, .int (iv x4))] → W p l e ({ frames := 1, cells := 0, slots := 0, locals := 24 } : Room) s m args below meth c H locs 0 0 (MQ below (Qi D ct ad L φ N0 Q) args s 0 0 (AA N0)) (F0 m 138 ls [])) : ∀ (n : Nat) (σ : St) (x1 : Int) (x2 : Int) (x3 : Int) (x4 : Int) (x5 : Int) (H : Heap) (locs : List Loc) (ls : Array Slot), wp_X12_bucks_36 K138 Q n σ x1 x2 x3 x4 x5 → Hs D ct ad L φ N0 s.heap σ H locs → lv_has ls 7 [(0, .ref (ad 12 0)), (1, .int (iv x1)), (2, .int (iv x2)), (3, .int (iv x3)), (4, .int (iv x4)), (5, .int (iv x5))] → W p l e ({ frames := 1, cells := 0, slots := 0, locals := 24 } : Room) s m args below meth c H locs 0 0 (MQ below (Qi D ct ad L φ N0 Q) args s 0 0 (AA N0)) (F0 m 36 ls []) := by
  have hF := X.2.2.2.2.2.2.2.2.1
  intro n
  induction n with
  | zero => intro σ x1 x2 x3 x4 x5 H locs ls hw; exact hw.elim
  | succ n ih =>
    intro σ x1 x2 x3 x4 x5 H locs ls hw h hl
    unfold wp_X12_bucks_36 at hw
    refine lv_iload X.1 X.2.1 dX12_bucks_36 (lv_at hl 5 rfl) ?_
    refine j_bipush X dX12_bucks_38 (by decide) ?_
    obtain ⟨g_27, hwt, hwf⟩ := hw
    refine j_cmp_gt (tgt := 138) X g_27 ⟨by decide, by decide⟩ dX12_bucks_40 (by decide) (fun c_49 => ?_) (fun c_49 => ?_)
    · have hw := hwt c_49
      exact hK138 σ x1 x2 x3 x4 _ _ _ hw h (lv_sub hl [0, 1, 2, 3, 4] rfl)
    · have hw := hwf c_49
      refine lv_iload X.1 X.2.1 dX12_bucks_43 (lv_at hl 4 rfl) ?_
      refine lv_iload X.1 X.2.1 dX12_bucks_45 (lv_at hl 5 rfl) ?_
      refine j_iadd X dX12_bucks_47 ?_
      refine lv_iload_n X.1 X.2.1 dX12_bucks_48 rfl (lv_at hl 3 rfl) ?_
      obtain ⟨g_28, g_29, hwt, hwf⟩ := hw
      refine j_cmp_gt (tgt := 138) X g_28 g_29 dX12_bucks_49 (by decide) (fun c_48 => ?_) (fun c_48 => ?_)
      · have hw := hwt c_48
        exact hK138 σ x1 x2 x3 x4 _ _ _ hw h (lv_sub hl [0, 1, 2, 3, 4] rfl)
      · have hw := hwf c_48
        refine lv_aload_n X.1 X.2.1 dX12_bucks_52 rfl (lv_at hl 0 rfl) ?_
        refine r_getR (ci := 12) X inw_12 h (hF.1 12 rfl).1 rfl rfl 16 (by decide) kw_1654 rfl ((hF.1 12 rfl).2 16) dX12_bucks_53 ?_
        refine lv_iload X.1 X.2.1 dX12_bucks_56 (lv_at hl 4 rfl) ?_
        refine lv_iload X.1 X.2.1 dX12_bucks_58 (lv_at hl 5 rfl) ?_
        refine j_iadd X dX12_bucks_60 ?_
        obtain ⟨g_30, g_31, hw⟩ := hw
        refine r_iald (n := 11) X h (hF.1 94 rfl).1 rfl (by decide) g_30 g_31 dX12_bucks_61 ?_
        refine j_iconst X dX12_bucks_62 ?_
        obtain ⟨g_32, hwt, hwf⟩ := hw
        refine j_cmp_ne (tgt := 69) X g_32 ⟨by decide, by decide⟩ dX12_bucks_63 (by decide) (fun c_47 => ?_) (fun c_47 => ?_)
        · have hw := hwt c_47
          refine lv_aload_n X.1 X.2.1 dX12_bucks_69 rfl (lv_at hl 0 rfl) ?_
          refine r_getR (ci := 12) X inw_12 h (hF.1 12 rfl).1 rfl rfl 13 (by decide) kw_1651 rfl ((hF.1 12 rfl).2 13) dX12_bucks_70 ?_
          refine lv_iload X.1 X.2.1 dX12_bucks_73 (lv_at hl 5 rfl) ?_
          obtain ⟨g_33, g_34, hw⟩ := hw
          refine r_iald (n := 7) X h (hF.1 92 rfl).1 rfl (by decide) g_33 g_34 dX12_bucks_75 ?_
          refine lv_aload_n X.1 X.2.1 dX12_bucks_76 rfl (lv_at hl 0 rfl) ?_
          refine lv_iload_n X.1 X.2.1 dX12_bucks_77 rfl (lv_at hl 1 rfl) ?_
          refine lv_iload_n X.1 X.2.1 dX12_bucks_78 rfl (lv_at hl 2 rfl) ?_
          refine lv_iload X.1 X.2.1 dX12_bucks_79 (lv_at hl 4 rfl) ?_
          refine lv_iload X.1 X.2.1 dX12_bucks_81 (lv_at hl 5 rfl) ?_
          refine j_iadd X dX12_bucks_83 ?_
          refine k_i h (r_V (C := RX12) (ci := 12) (As := [.int (iv x1), .int (iv x2), .int (iv (x4 + x5))]) (rest := [.int (iv (σ 92 0 (Int.toNat x5)))]) X h (c_X12_wideAt l D ct ad L φ N0 σ x1 x2 (x4 + x5) _ hw) rfl rfl ⟨Nat.le_of_ble_eq_true rfl, Nat.le_of_ble_eq_true rfl⟩ kw_2007 kw_2009 kw_67 kw_129 kw_2010 ⟨rfl, pd_X12_wideAt⟩ (hF.1 12 rfl).1 rfl rfl rfl hl.1 rfl (Nat.le_of_ble_eq_true rfl) ⟨Nat.le_of_ble_eq_true rfl, Nat.le_of_ble_eq_true rfl⟩ dX12_bucks_84) (fun r_36 σ_35 H locs hw h => ?_)
          refine j_imul X dX12_bucks_87 ?_
          refine lv_aload_n X.1 X.2.1 dX12_bucks_88 rfl (lv_at hl 0 rfl) ?_
          refine r_getR (ci := 12) X inw_12 h (hF.1 12 rfl).1 rfl rfl 16 (by decide) kw_1654 rfl ((hF.1 12 rfl).2 16) dX12_bucks_89 ?_
          refine lv_iload X.1 X.2.1 dX12_bucks_92 (lv_at hl 4 rfl) ?_
          refine lv_iload X.1 X.2.1 dX12_bucks_94 (lv_at hl 5 rfl) ?_
          refine j_iadd X dX12_bucks_96 ?_
          obtain ⟨g_37, g_38, hw⟩ := hw
          refine r_iald (n := 11) X h (hF.1 94 rfl).1 rfl (by decide) g_37 g_38 dX12_bucks_97 ?_
          refine j_iadd X dX12_bucks_98 ?_
          refine j_bind (fun v_39 ev_39 => ?_)
          have hw := hw v_39 ev_39
          refine lv_istore (lv' := [(6, .int (iv v_39)), (0, .ref (ad 12 0)), (1, .int (iv x1)), (2, .int (iv x2)), (3, .int (iv x3)), (4, .int (iv x4)), (5, .int (iv x5))]) X.1 X.2.1 dX12_bucks_99 hl (by decide) rfl (fun ls hl => ?_)
          refine lv_aload_n X.1 X.2.1 dX12_bucks_101 rfl (lv_at hl 1 rfl) ?_
          refine r_getR (ci := 12) X inw_12 h (hF.1 12 rfl).1 rfl rfl 16 (by decide) kw_1654 rfl ((hF.1 12 rfl).2 16) dX12_bucks_102 ?_
          refine lv_iload X.1 X.2.1 dX12_bucks_105 (lv_at hl 5 rfl) ?_
          refine lv_iload X.1 X.2.1 dX12_bucks_107 (lv_at hl 0 rfl) ?_
          refine lv_aload_n X.1 X.2.1 dX12_bucks_109 rfl (lv_at hl 1 rfl) ?_
          refine r_getR (ci := 12) X inw_12 h (hF.1 12 rfl).1 rfl rfl 16 (by decide) kw_1654 rfl ((hF.1 12 rfl).2 16) dX12_bucks_110 ?_
          refine lv_iload X.1 X.2.1 dX12_bucks_113 (lv_at hl 5 rfl) ?_
          obtain ⟨g_40, g_41, hw⟩ := hw
          refine r_iald (n := 11) X h (hF.1 94 rfl).1 rfl (by decide) g_40 g_41 dX12_bucks_115 ?_
          obtain ⟨g_42, g_43, hwt, hwf⟩ := hw
          refine j_cmp_le (tgt := 124) X g_42 g_43 dX12_bucks_116 (by decide) (fun c_46 => ?_) (fun c_46 => ?_)
          · have hw := hwt c_46
            refine lv_aload_n X.1 X.2.1 dX12_bucks_124 rfl (lv_at hl 1 rfl) ?_
            refine r_getR (ci := 12) X inw_12 h (hF.1 12 rfl).1 rfl rfl 16 (by decide) kw_1654 rfl ((hF.1 12 rfl).2 16) dX12_bucks_125 ?_
            refine lv_iload X.1 X.2.1 dX12_bucks_128 (lv_at hl 5 rfl) ?_
            obtain ⟨g_44, g_45, hw⟩ := hw
            refine r_iald (n := 11) X h (hF.1 94 rfl).1 rfl (by decide) g_44 g_45 dX12_bucks_130 ?_
            exact lb_X12_bucks_131 X ih hK138 σ_35 x1 x2 x3 x4 x5 (σ_35 94 0 (Int.toNat x4)) x4 _ _ _ hw h (lv_sub hl [1, 2, 3, 4, 5, 6] rfl)
          · have hw := hwf c_46
            refine lv_iload X.1 X.2.1 dX12_bucks_119 (lv_at hl 0 rfl) ?_
            refine lv_goto (tgt := 131) X.1 X.2.1 dX12_bucks_121 (by decide) ?_
            exact lb_X12_bucks_131 X ih hK138 σ_35 x1 x2 x3 x4 x5 v_39 x4 _ _ _ hw h (lv_sub hl [1, 2, 3, 4, 5, 6] rfl)
        · have hw := hwf c_47
          refine lv_goto (tgt := 132) X.1 X.2.1 dX12_bucks_66 (by decide) ?_
          exact lb_X12_bucks_132 X ih hK138 σ x1 x2 x3 x4 x5 _ _ _ hw h (lv_sub hl [0, 1, 2, 3, 4, 5] rfl)
set_option maxRecDepth 100000 in
set_option maxHeartbeats 4000000 in
theorem lb_X12_bucks_32 (X : Cx p s m meth c args cX12_bucks 7 (some .int) RX12 D ct L φ N0) {K8 : St → Int → Int → Int → Int → Prop} {K144 : St → Int → Int → Int → Prop} (hK8 : ∀ (σ : St) (x1 : Int) (x2 : Int) (x3 : Int) (x4 : Int) (H : Heap) (locs : List Loc) (ls : Array Slot), K8 σ x1 x2 x3 x4 → Hs D ct ad L φ N0 s.heap σ H locs → lv_has ls 7 [(0, .ref (ad 12 0)), (1, .int (iv x1)), (2, .int (iv x2)), (3, .int (iv x3)), (4, .int (iv x4))] → W p l e ({ frames := 1, cells := 0, slots := 0, locals := 24 } : Room) s m args below meth c H locs 0 0 (MQ below (Qi D ct ad L φ N0 Q) args s 0 0 (AA N0)) (F0 m 8 ls [])) (hK144 : ∀ (σ : St) (x1 : Int) (x2 : Int) (x3 : Int) (H : Heap) (locs : List Loc) (ls : Array Slot), K144 σ x1 x2 x3 → Hs D ct ad L φ N0 s.heap σ H locs → lv_has ls 7 [(0, .ref (ad 12 0)), (1, .int (iv x1)), (2, .int (iv x2)), (3, .int (iv x3))] → W p l e ({ frames := 1, cells := 0, slots := 0, locals := 24 } : Room) s m args below meth c H locs 0 0 (MQ below (Qi D ct ad L φ N0 Q) args s 0 0 (AA N0)) (F0 m 144 ls [])) (σ : St) (x1 : Int) (x2 : Int) (x3 : Int) (x4 : Int) (y0 : Int) (y1 : Int) (H : Heap) (locs : List Loc) (ls : Array Slot) (hw : wp_X12_bucks_32 K8 K144 Q σ x1 x2 x3 x4 y0 y1) (h : Hs D ct ad L φ N0 s.heap σ H locs) (hl : lv_has ls 7 [(0, .ref (ad 12 0)), (1, .int (iv x1)), (2, .int (iv x2)), (3, .int (iv x3)), (4, .int (iv x4))]) : W p l e ({ frames := 1, cells := 0, slots := 0, locals := 24 } : Room) s m args below meth c H locs 0 0 (MQ below (Qi D ct ad L φ N0 Q) args s 0 0 (AA N0)) (F0 m 32 ls [.int (iv y0), .int (iv y1), .ref (ad 94 0)]) := by
  have hF := X.2.2.2.2.2.2.2.2.1
  unfold wp_X12_bucks_32 at hw
  obtain ⟨g_50, g_51, hw⟩ := hw
  refine r_iast (n := 11) X h (hF.1 94 rfl).1 (fun _ => rfl) (by decide) g_50 g_51 rfl dX12_bucks_32 (fun H locs h => ?_)
  obtain ⟨σ_52, eσ_52⟩ : ∃ z : St, z = st σ 94 0 (Int.toNat y1) y0 := ⟨_, rfl⟩
  rw [← eσ_52] at h
  have hw := hw σ_52 eσ_52
  refine j_iconst X dX12_bucks_33 ?_
  refine lv_istore (lv' := [(5, .int (iv 2)), (0, .ref (ad 12 0)), (1, .int (iv x1)), (2, .int (iv x2)), (3, .int (iv x3)), (4, .int (iv x4))]) X.1 X.2.1 dX12_bucks_34 hl (by decide) rfl (fun ls hl => ?_)
  exact hw.elim (fun n36 hw => lb_X12_bucks_36 X (lb_X12_bucks_138 X hK8 hK144) n36 σ_52 x1 x2 x3 x4 2 _ _ _ hw h (lv_sub hl [1, 2, 3, 4, 5, 0] rfl))
set_option maxRecDepth 100000 in
set_option maxHeartbeats 4000000 in
theorem lb_X12_bucks_8 (X : Cx p s m meth c args cX12_bucks 7 (some .int) RX12 D ct L φ N0) {K144 : St → Int → Int → Int → Prop} (hK144 : ∀ (σ : St) (x1 : Int) (x2 : Int) (x3 : Int) (H : Heap) (locs : List Loc) (ls : Array Slot), K144 σ x1 x2 x3 → Hs D ct ad L φ N0 s.heap σ H locs → lv_has ls 7 [(0, .ref (ad 12 0)), (1, .int (iv x1)), (2, .int (iv x2)), (3, .int (iv x3))] → W p l e ({ frames := 1, cells := 0, slots := 0, locals := 24 } : Room) s m args below meth c H locs 0 0 (MQ below (Qi D ct ad L φ N0 Q) args s 0 0 (AA N0)) (F0 m 144 ls [])) : ∀ (n : Nat) (σ : St) (x1 : Int) (x2 : Int) (x3 : Int) (x4 : Int) (H : Heap) (locs : List Loc) (ls : Array Slot), wp_X12_bucks_8 K144 Q n σ x1 x2 x3 x4 → Hs D ct ad L φ N0 s.heap σ H locs → lv_has ls 7 [(0, .ref (ad 12 0)), (1, .int (iv x1)), (2, .int (iv x2)), (3, .int (iv x3)), (4, .int (iv x4))] → W p l e ({ frames := 1, cells := 0, slots := 0, locals := 24 } : Room) s m args below meth c H locs 0 0 (MQ below (Qi D ct ad L φ N0 Q) args s 0 0 (AA N0)) (F0 m 8 ls []) := by
  have hF := X.2.2.2.2.2.2.2.2.1
  intro n
  induction n with
  | zero => intro σ x1 x2 x3 x4 H locs ls hw; exact hw.elim
  | succ n ih =>
    intro σ x1 x2 x3 x4 H locs ls hw h hl
    unfold wp_X12_bucks_8 at hw
    refine lv_iload X.1 X.2.1 dX12_bucks_8 (lv_at hl 4 rfl) ?_
    obtain ⟨g_53, hwt, hwf⟩ := hw
    refine j_if_lt (tgt := 144) X g_53 dX12_bucks_10 (by decide) (fun c_56 => ?_) (fun c_56 => ?_)
    · have hw := hwt c_56
      exact hK144 σ x1 x2 x3 _ _ _ hw h (lv_sub hl [0, 1, 2, 3] rfl)
    · have hw := hwf c_56
      refine lv_aload_n X.1 X.2.1 dX12_bucks_13 rfl (lv_at hl 0 rfl) ?_
      refine r_getR (ci := 12) X inw_12 h (hF.1 12 rfl).1 rfl rfl 16 (by decide) kw_1654 rfl ((hF.1 12 rfl).2 16) dX12_bucks_14 ?_
      refine lv_iload X.1 X.2.1 dX12_bucks_17 (lv_at hl 4 rfl) ?_
      refine lv_iload_n X.1 X.2.1 dX12_bucks_19 rfl (lv_at hl 3 rfl) ?_
      refine lv_iload X.1 X.2.1 dX12_bucks_20 (lv_at hl 4 rfl) ?_
      refine j_isub X dX12_bucks_22 ?_
      refine j_iconst X dX12_bucks_23 ?_
      obtain ⟨g_54, hwt, hwf⟩ := hw
      refine j_cmp_ge (tgt := 31) X g_54 ⟨by decide, by decide⟩ dX12_bucks_24 (by decide) (fun c_55 => ?_) (fun c_55 => ?_)
      · have hw := hwt c_55
        refine j_iconst X dX12_bucks_31 ?_
        exact lb_X12_bucks_32 X ih hK144 σ x1 x2 x3 x4 (-1) x4 _ _ _ hw h (lv_sub hl [0, 1, 2, 3, 4] rfl)
      · have hw := hwf c_55
        refine j_iconst X dX12_bucks_27 ?_
        refine lv_goto (tgt := 32) X.1 X.2.1 dX12_bucks_28 (by decide) ?_
        exact lb_X12_bucks_32 X ih hK144 σ x1 x2 x3 x4 0 x4 _ _ _ hw h (lv_sub hl [0, 1, 2, 3, 4] rfl)
theorem pd_X12_bucks : yX12_bucks.cls ≠ "java/lang/invoke/MethodHandle" ∧ yX12_bucks.cls ≠ "java/lang/invoke/VarHandle" ∧ (parseMethodDescriptor yX12_bucks.desc).map (fun d => d.parameters.length) = some 2 := by decide +kernel
set_option maxRecDepth 100000 in
set_option maxHeartbeats 4000000 in
theorem c_X12_bucks (l : Launch) (D : va_G) (ct : Nat → ClassId) (ad : Nat → Nat → Nat) (L : List (Nat × Nat)) (φ : Nat → Nat → Nat → Bool) (N0 : Nat) (σ : St) (x1 : Int) (x2 : Int) (Q : Int → St → Prop) (hw : wp_X12_bucks σ x1 x2 Q) : Met l yX12_bucks (.code yX12_bucks cX12_bucks 7 (some .int) :: gw) ({ frames := 1, cells := 0, slots := 0, locals := 24 } : Room) (Pm D ct ad L φ N0 σ [.ref (ad 12 0), .int (iv x1), .int (iv x2)]) (Qi D ct ad L φ N0 Q) 0 0 (AA N0) := by
  refine m_of (by decide) (fun p e s m below meth c X hnm h => ?_)
  have hF := X.2.2.2.2.2.2.2.2.1
  have hl := lv_entry ([.ref (ad 12 0), .int (iv x1), .int (iv x2)]) (n := 7) (Nat.le_of_ble_eq_true rfl)
  rw [lg_entry_eq]
  generalize (lg_sl ([.ref (ad 12 0), .int (iv x1), .int (iv x2)]) ++ List.replicate (7 - (lg_sl ([.ref (ad 12 0), .int (iv x1), .int (iv x2)])).length) Slot.unset).toArray = ls at hl ⊢
  have hl : lv_has ls 7 [(0, .ref (ad 12 0)), (1, .int (iv x1)), (2, .int (iv x2))] := hl
  have h : Hs D ct ad L φ N0 s.heap σ s.heap [] := h
  unfold wp_X12_bucks at hw
  refine lv_iload_n X.1 X.2.1 dX12_bucks_0 rfl (lv_at hl 2 rfl) ?_
  refine k_i h (r_S (As := [.int (iv x2)]) (rest := []) X h (c_X12_unitsOf l D ct ad L φ N0 σ x2 _ hw) rfl rfl ⟨Nat.le_of_ble_eq_true rfl, Nat.le_of_ble_eq_true rfl⟩ kw_2004 kw_2005 kw_129 kw_2006 pd_X12_unitsOf rfl hl.1 rfl (Nat.le_of_ble_eq_true rfl) ⟨Nat.le_of_ble_eq_true rfl, Nat.le_of_ble_eq_true rfl⟩ dX12_bucks_1) (fun r_58 σ_57 H locs hw h => ?_)
  refine lv_istore_n (lv' := [(3, .int (iv r_58)), (0, .ref (ad 12 0)), (1, .int (iv x1)), (2, .int (iv x2))]) X.1 X.2.1 dX12_bucks_4 rfl hl (by decide) rfl (fun ls hl => ?_)
  refine lv_iload_n X.1 X.2.1 dX12_bucks_5 rfl (lv_at hl 0 rfl) ?_
  refine lv_istore (lv' := [(4, .int (iv r_58)), (3, .int (iv r_58)), (0, .ref (ad 12 0)), (1, .int (iv x1)), (2, .int (iv x2))]) X.1 X.2.1 dX12_bucks_6 hl (by decide) rfl (fun ls hl => ?_)
  exact hw.elim (fun n8 hw => lb_X12_bucks_8 X (lb_X12_bucks_144 X) n8 σ_57 x1 x2 r_58 r_58 _ _ _ hw h (lv_sub hl [2, 3, 4, 1, 0] rfl))
end
section
variable {p : Program} {l : Launch} {e : Env} {s : State} {m : MethodId} {args : Array Value} {below : List Frame} {meth : Method} {c : Code} {D : va_G} {ct : Nat → ClassId} {ad : Nat → Nat → Nat} {L : List (Nat × Nat)} {φ : Nat → Nat → Nat → Bool} {N0 : Nat}
variable {Q : Int → St → Prop}
theorem pd_X12_buck : yX12_buck.cls ≠ "java/lang/invoke/MethodHandle" ∧ yX12_buck.cls ≠ "java/lang/invoke/VarHandle" ∧ (parseMethodDescriptor yX12_buck.desc).map (fun d => d.parameters.length) = some 2 := by decide +kernel
set_option maxRecDepth 100000 in
set_option maxHeartbeats 4000000 in
theorem c_X12_buck (l : Launch) (D : va_G) (ct : Nat → ClassId) (ad : Nat → Nat → Nat) (L : List (Nat × Nat)) (φ : Nat → Nat → Nat → Bool) (N0 : Nat) (σ : St) (x1 : Int) (x2 : Int) (Q : Int → St → Prop) (hw : wp_X12_buck σ x1 x2 Q) : Met l yX12_buck (.code yX12_buck cX12_buck 3 (some .int) :: gw) ({ frames := 2, cells := 0, slots := 0, locals := 50 } : Room) (Pm D ct ad L φ N0 σ [.ref (ad 12 0), .int (iv x1), .int (iv x2)]) (Qi D ct ad L φ N0 Q) 0 0 (AA N0) := by
  refine m_of (by decide) (fun p e s m below meth c X hnm h => ?_)
  have hF := X.2.2.2.2.2.2.2.2.1
  have hl := lv_entry ([.ref (ad 12 0), .int (iv x1), .int (iv x2)]) (n := 3) (Nat.le_of_ble_eq_true rfl)
  rw [lg_entry_eq]
  generalize (lg_sl ([.ref (ad 12 0), .int (iv x1), .int (iv x2)]) ++ List.replicate (3 - (lg_sl ([.ref (ad 12 0), .int (iv x1), .int (iv x2)])).length) Slot.unset).toArray = ls at hl ⊢
  have hl : lv_has ls 3 [(0, .ref (ad 12 0)), (1, .int (iv x1)), (2, .int (iv x2))] := hl
  have h : Hs D ct ad L φ N0 s.heap σ s.heap [] := h
  unfold wp_X12_buck at hw
  refine lv_aload_n X.1 X.2.1 dX12_buck_0 rfl (lv_at hl 0 rfl) ?_
  refine j_iconst X dX12_buck_1 ?_
  refine r_put (ci := 12) X inw_12 tyX12 tyX12_ok nmX12 h (hF.1 12 rfl).1 rfl rfl 0 (by decide) kw_1638 rfl rfl rfl (Nat.le_of_ble_eq_true rfl) rfl rfl dX12_buck_2 (fun H locs h => ?_)
  obtain ⟨σ_1, eσ_1⟩ : ∃ z : St, z = st σ 12 0 0 0 := ⟨_, rfl⟩
  rw [← eσ_1] at h
  have hw := hw σ_1 eσ_1
  refine lv_iload_n X.1 X.2.1 dX12_buck_5 rfl (lv_at hl 1 rfl) ?_
  refine lv_iload_n X.1 X.2.1 dX12_buck_6 rfl (lv_at hl 2 rfl) ?_
  refine k_i h (r_S (As := [.int (iv x1), .int (iv x2)]) (rest := []) X h (c_X12_isStem l D ct ad L φ N0 σ_1 x1 x2 _ hw) rfl rfl ⟨Nat.le_of_ble_eq_true rfl, Nat.le_of_ble_eq_true rfl⟩ kw_1966 kw_1967 kw_129 kw_1968 pd_X12_isStem rfl hl.1 rfl (Nat.le_of_ble_eq_true rfl) ⟨Nat.le_of_ble_eq_true rfl, Nat.le_of_ble_eq_true rfl⟩ dX12_buck_7) (fun r_3 σ_2 H locs hw h => ?_)
  obtain ⟨g_4, hwt, hwf⟩ := hw
  refine j_if_eq (tgt := 22) X g_4 dX12_buck_10 (by decide) (fun c_7 => ?_) (fun c_7 => ?_)
  · have hw := hwt c_7
    refine j_iconst X dX12_buck_22 ?_
    exact k_ir X rfl h hw dX12_buck_23
  · have hw := hwf c_7
    refine lv_aload_n X.1 X.2.1 dX12_buck_13 rfl (lv_at hl 0 rfl) ?_
    refine lv_iload_n X.1 X.2.1 dX12_buck_14 rfl (lv_at hl 1 rfl) ?_
    refine lv_iload_n X.1 X.2.1 dX12_buck_15 rfl (lv_at hl 2 rfl) ?_
    refine k_i h (r_V (C := RX12) (ci := 12) (As := [.int (iv x1), .int (iv x2)]) (rest := []) X h (c_X12_bucks l D ct ad L φ N0 σ_2 x1 x2 _ hw) rfl rfl ⟨Nat.le_of_ble_eq_true rfl, Nat.le_of_ble_eq_true rfl⟩ kw_2000 kw_2002 kw_66 kw_129 kw_2003 ⟨rfl, pd_X12_bucks⟩ (hF.1 12 rfl).1 rfl rfl rfl hl.1 rfl (Nat.le_of_ble_eq_true rfl) ⟨Nat.le_of_ble_eq_true rfl, Nat.le_of_ble_eq_true rfl⟩ dX12_buck_16) (fun r_6 σ_5 H locs hw h => ?_)
    refine lv_goto (tgt := 23) X.1 X.2.1 dX12_buck_19 (by decide) ?_
    exact k_ir X rfl h hw dX12_buck_23
end
section
variable {p : Program} {l : Launch} {e : Env} {s : State} {m : MethodId} {args : Array Value} {below : List Frame} {meth : Method} {c : Code} {D : va_G} {ct : Nat → ClassId} {ad : Nat → Nat → Nat} {L : List (Nat × Nat)} {φ : Nat → Nat → Nat → Bool} {N0 : Nat}
variable {Q : Int → St → Prop}
theorem pd_X12_piece : yX12_piece.cls ≠ "java/lang/invoke/MethodHandle" ∧ yX12_piece.cls ≠ "java/lang/invoke/VarHandle" ∧ (parseMethodDescriptor yX12_piece.desc).map (fun d => d.parameters.length) = some 3 := by decide +kernel
set_option maxRecDepth 100000 in
set_option maxHeartbeats 4000000 in
theorem c_X12_piece (l : Launch) (D : va_G) (ct : Nat → ClassId) (ad : Nat → Nat → Nat) (L : List (Nat × Nat)) (φ : Nat → Nat → Nat → Bool) (N0 : Nat) (σ : St) (x1 : Int) (x2 : Int) (x3 : Int) (Q : Int → St → Prop) (hw : wp_X12_piece σ x1 x2 x3 Q) : Met l yX12_piece (.code yX12_piece cX12_piece 4 (some .int) :: gw) ({ frames := 2, cells := 0, slots := 0, locals := 50 } : Room) (Pm D ct ad L φ N0 σ [.ref (ad 12 0), .int (iv x1), .int (iv x2), .int (iv x3)]) (Qi D ct ad L φ N0 Q) 0 0 (AA N0) := by
  refine m_of (by decide) (fun p e s m below meth c X hnm h => ?_)
  have hF := X.2.2.2.2.2.2.2.2.1
  have hl := lv_entry ([.ref (ad 12 0), .int (iv x1), .int (iv x2), .int (iv x3)]) (n := 4) (Nat.le_of_ble_eq_true rfl)
  rw [lg_entry_eq]
  generalize (lg_sl ([.ref (ad 12 0), .int (iv x1), .int (iv x2), .int (iv x3)]) ++ List.replicate (4 - (lg_sl ([.ref (ad 12 0), .int (iv x1), .int (iv x2), .int (iv x3)])).length) Slot.unset).toArray = ls at hl ⊢
  have hl : lv_has ls 4 [(0, .ref (ad 12 0)), (1, .int (iv x1)), (2, .int (iv x2)), (3, .int (iv x3))] := hl
  have h : Hs D ct ad L φ N0 s.heap σ s.heap [] := h
  unfold wp_X12_piece at hw
  refine lv_aload_n X.1 X.2.1 dX12_piece_0 rfl (lv_at hl 0 rfl) ?_
  refine j_iconst X dX12_piece_1 ?_
  refine r_put (ci := 12) X inw_12 tyX12 tyX12_ok nmX12 h (hF.1 12 rfl).1 rfl rfl 0 (by decide) kw_1638 rfl rfl rfl (Nat.le_of_ble_eq_true rfl) rfl rfl dX12_piece_2 (fun H locs h => ?_)
  obtain ⟨σ_1, eσ_1⟩ : ∃ z : St, z = st σ 12 0 0 0 := ⟨_, rfl⟩
  rw [← eσ_1] at h
  have hw := hw σ_1 eσ_1
  refine lv_iload_n X.1 X.2.1 dX12_piece_5 rfl (lv_at hl 1 rfl) ?_
  refine lv_iload_n X.1 X.2.1 dX12_piece_6 rfl (lv_at hl 2 rfl) ?_
  refine k_i h (r_S (As := [.int (iv x1), .int (iv x2)]) (rest := []) X h (c_X12_isStem l D ct ad L φ N0 σ_1 x1 x2 _ hw) rfl rfl ⟨Nat.le_of_ble_eq_true rfl, Nat.le_of_ble_eq_true rfl⟩ kw_1966 kw_1967 kw_129 kw_1968 pd_X12_isStem rfl hl.1 rfl (Nat.le_of_ble_eq_true rfl) ⟨Nat.le_of_ble_eq_true rfl, Nat.le_of_ble_eq_true rfl⟩ dX12_piece_7) (fun r_3 σ_2 H locs hw h => ?_)
  obtain ⟨g_4, hwt, hwf⟩ := hw
  refine j_if_ne (tgt := 15) X g_4 dX12_piece_10 (by decide) (fun c_13 => ?_) (fun c_13 => ?_)
  · have hw := hwt c_13
    refine lv_aload_n X.1 X.2.1 dX12_piece_15 rfl (lv_at hl 0 rfl) ?_
    refine lv_iload_n X.1 X.2.1 dX12_piece_16 rfl (lv_at hl 1 rfl) ?_
    refine lv_iload_n X.1 X.2.1 dX12_piece_17 rfl (lv_at hl 2 rfl) ?_
    refine k_i h (r_V (C := RX12) (ci := 12) (As := [.int (iv x1), .int (iv x2)]) (rest := []) X h (c_X12_bucks l D ct ad L φ N0 σ_2 x1 x2 _ hw) rfl rfl ⟨Nat.le_of_ble_eq_true rfl, Nat.le_of_ble_eq_true rfl⟩ kw_2000 kw_2002 kw_66 kw_129 kw_2003 ⟨rfl, pd_X12_bucks⟩ (hF.1 12 rfl).1 rfl rfl rfl hl.1 rfl (Nat.le_of_ble_eq_true rfl) ⟨Nat.le_of_ble_eq_true rfl, Nat.le_of_ble_eq_true rfl⟩ dX12_piece_18) (fun r_6 σ_5 H locs hw h => ?_)
    refine lv_pop X.1 X.2.1 dX12_piece_21 rfl ?_
    refine lv_iload_n X.1 X.2.1 dX12_piece_22 rfl (lv_at hl 3 rfl) ?_
    refine j_iconst X dX12_piece_23 ?_
    refine lv_aload_n X.1 X.2.1 dX12_piece_24 rfl (lv_at hl 0 rfl) ?_
    refine r_get (ci := 12) X inw_12 h (hF.1 12 rfl).1 rfl rfl 15 (by decide) kw_1653 rfl dX12_piece_25 ?_
    refine j_iconst X dX12_piece_28 ?_
    refine j_isub X dX12_piece_29 ?_
    refine k_i h (r_S (As := [.int (iv x3), .int (iv 0), .int (iv ((σ_5 12 0 15) - 1))]) (rest := []) X h (c_X12_within l D ct ad L φ N0 σ_5 x3 0 ((σ_5 12 0 15) - 1) _ hw) rfl rfl ⟨Nat.le_of_ble_eq_true rfl, Nat.le_of_ble_eq_true rfl⟩ kw_1959 kw_1960 kw_129 kw_1961 pd_X12_within rfl hl.1 rfl (Nat.le_of_ble_eq_true rfl) ⟨Nat.le_of_ble_eq_true rfl, Nat.le_of_ble_eq_true rfl⟩ dX12_piece_30) (fun r_8 σ_7 H locs hw h => ?_)
    obtain ⟨g_9, hwt, hwf⟩ := hw
    refine j_if_eq (tgt := 45) X g_9 dX12_piece_33 (by decide) (fun c_12 => ?_) (fun c_12 => ?_)
    · have hw := hwt c_12
      refine j_iconst X dX12_piece_45 ?_
      exact k_ir X rfl h hw dX12_piece_46
    · have hw := hwf c_12
      refine lv_aload_n X.1 X.2.1 dX12_piece_36 rfl (lv_at hl 0 rfl) ?_
      refine r_getR (ci := 12) X inw_12 h (hF.1 12 rfl).1 rfl rfl 14 (by decide) kw_1652 rfl ((hF.1 12 rfl).2 14) dX12_piece_37 ?_
      refine lv_iload_n X.1 X.2.1 dX12_piece_40 rfl (lv_at hl 3 rfl) ?_
      obtain ⟨g_10, g_11, hw⟩ := hw
      refine r_iald (n := 8) X h (hF.1 93 rfl).1 rfl (by decide) g_10 g_11 dX12_piece_41 ?_
      refine lv_goto (tgt := 46) X.1 X.2.1 dX12_piece_42 (by decide) ?_
      exact k_ir X rfl h hw dX12_piece_46
  · have hw := hwf c_13
    refine j_iconst X dX12_piece_13 ?_
    exact k_ir X rfl h hw dX12_piece_14
end
section
variable {p : Program} {l : Launch} {e : Env} {s : State} {m : MethodId} {args : Array Value} {below : List Frame} {meth : Method} {c : Code} {D : va_G} {ct : Nat → ClassId} {ad : Nat → Nat → Nat} {L : List (Nat × Nat)} {φ : Nat → Nat → Nat → Bool} {N0 : Nat}
variable {Q : Int → St → Prop}
set_option maxRecDepth 100000 in
set_option maxHeartbeats 4000000 in
theorem lb_X12_lays_126 (X : Cx p s m meth c args cX12_lays 10 (some .boolean) RX12 D ct L φ N0) (σ : St) (x2 : Int) (x5 : Int) (x7 : Int) (y0 : Int) (H : Heap) (locs : List Loc) (ls : Array Slot) (hw : wp_X12_lays_126 Q σ x2 x5 x7 y0) (h : Hs D ct ad L φ N0 s.heap σ H locs) (hl : lv_has ls 10 [(2, .int (iv x2)), (5, .int (iv x5)), (7, .int (iv x7))]) : W p l e ({ frames := 1, cells := 0, slots := 0, locals := 22 } : Room) s m args below meth c H locs 0 0 (MQ below (Qi D ct ad L φ N0 Q) args s 0 0 (AA N0)) (F0 m 126 ls [.int (iv y0), .ref (ad 12 0)]) := by
  have hF := X.2.2.2.2.2.2.2.2.1
  unfold wp_X12_lays_126 at hw
  refine r_put (ci := 12) X inw_12 tyX12 tyX12_ok nmX12 h (hF.1 12 rfl).1 rfl rfl 15 (by decide) kw_1653 rfl rfl rfl (Nat.le_of_ble_eq_true rfl) rfl rfl dX12_lays_126 (fun H locs h => ?_)
  obtain ⟨σ_1, eσ_1⟩ : ∃ z : St, z = st σ 12 0 15 y0 := ⟨_, rfl⟩
  rw [← eσ_1] at h
  have hw := hw σ_1 eσ_1
  refine lv_iload X.1 X.2.1 dX12_lays_129 (lv_at hl 2 rfl) ?_
  obtain ⟨g_2, hwt, hwf⟩ := hw
  refine j_if_eq (tgt := 147) X g_2 dX12_lays_131 (by decide) (fun c_8 => ?_) (fun c_8 => ?_)
  · have hw := hwt c_8
    refine j_iconst X dX12_lays_147 ?_
    exact k_ir X rfl h hw dX12_lays_148
  · have hw := hwf c_8
    refine lv_iload X.1 X.2.1 dX12_lays_134 (lv_at hl 1 rfl) ?_
    refine lv_iload_n X.1 X.2.1 dX12_lays_136 rfl (lv_at hl 0 rfl) ?_
    refine k_i h (r_S (As := [.int (iv x2)]) (rest := [.int (iv x5)]) X h (c_X12_unitsOf l D ct ad L φ N0 σ_1 x2 _ hw) rfl rfl ⟨Nat.le_of_ble_eq_true rfl, Nat.le_of_ble_eq_true rfl⟩ kw_2004 kw_2005 kw_129 kw_2006 pd_X12_unitsOf rfl hl.1 rfl (Nat.le_of_ble_eq_true rfl) ⟨Nat.le_of_ble_eq_true rfl, Nat.le_of_ble_eq_true rfl⟩ dX12_lays_137) (fun r_4 σ_3 H locs hw h => ?_)
    obtain ⟨g_5, g_6, hwt, hwf⟩ := hw
    refine j_cmp_gt (tgt := 147) X g_5 g_6 dX12_lays_140 (by decide) (fun c_7 => ?_) (fun c_7 => ?_)
    · have hw := hwt c_7
      refine j_iconst X dX12_lays_147 ?_
      exact k_ir X rfl h hw dX12_lays_148
    · have hw := hwf c_7
      refine j_iconst X dX12_lays_143 ?_
      refine lv_goto (tgt := 148) X.1 X.2.1 dX12_lays_144 (by decide) ?_
      exact k_ir X rfl h hw dX12_lays_148
set_option maxRecDepth 100000 in
set_option maxHeartbeats 4000000 in
theorem lb_X12_lays_114 (X : Cx p s m meth c args cX12_lays 10 (some .boolean) RX12 D ct L φ N0) (σ : St) (x2 : Int) (x4 : Int) (x5 : Int) (x7 : Int) (H : Heap) (locs : List Loc) (ls : Array Slot) (hw : wp_X12_lays_114 Q σ x2 x4 x5 x7) (h : Hs D ct ad L φ N0 s.heap σ H locs) (hl : lv_has ls 10 [(0, .ref (ad 12 0)), (2, .int (iv x2)), (4, .int (iv x4)), (5, .int (iv x5)), (7, .int (iv x7))]) : W p l e ({ frames := 1, cells := 0, slots := 0, locals := 22 } : Room) s m args below meth c H locs 0 0 (MQ below (Qi D ct ad L φ N0 Q) args s 0 0 (AA N0)) (F0 m 114 ls []) := by
  have hF := X.2.2.2.2.2.2.2.2.1
  unfold wp_X12_lays_114 at hw
  refine lv_aload_n X.1 X.2.1 dX12_lays_114 rfl (lv_at hl 0 rfl) ?_
  refine lv_iload X.1 X.2.1 dX12_lays_115 (lv_at hl 4 rfl) ?_
  obtain ⟨g_9, hwt, hwf⟩ := hw
  refine j_if_eq (tgt := 125) X g_9 dX12_lays_117 (by decide) (fun c_10 => ?_) (fun c_10 => ?_)
  · have hw := hwt c_10
    refine j_iconst X dX12_lays_125 ?_
    exact lb_X12_lays_126 X σ x2 x5 x7 0 _ _ _ hw h (lv_sub hl [1, 3, 4] rfl)
  · have hw := hwf c_10
    refine lv_iload X.1 X.2.1 dX12_lays_120 (lv_at hl 2 rfl) ?_
    refine lv_goto (tgt := 126) X.1 X.2.1 dX12_lays_122 (by decide) ?_
    exact lb_X12_lays_126 X σ x2 x5 x7 x4 _ _ _ hw h (lv_sub hl [1, 3, 4] rfl)
set_option maxRecDepth 100000 in
set_option maxHeartbeats 4000000 in
theorem lb_X12_lays_58 (X : Cx p s m meth c args cX12_lays 10 (some .boolean) RX12 D ct L φ N0) {K114 : St → Int → Int → Int → Int → Prop} (hK114 : ∀ (σ : St) (x2 : Int) (x4 : Int) (x5 : Int) (x7 : Int) (H : Heap) (locs : List Loc) (ls : Array Slot), K114 σ x2 x4 x5 x7 → Hs D ct ad L φ N0 s.heap σ H locs → lv_has ls 10 [(0, .ref (ad 12 0)), (2, .int (iv x2)), (4, .int (iv x4)), (5, .int (iv x5)), (7, .int (iv x7))] → W p l e ({ frames := 1, cells := 0, slots := 0, locals := 22 } : Room) s m args below meth c H locs 0 0 (MQ below (Qi D ct ad L φ N0 Q) args s 0 0 (AA N0)) (F0 m 114 ls [])) : ∀ (n : Nat) (σ : St) (x2 : Int) (x4 : Int) (x5 : Int) (x6 : Int) (x7 : Int) (x8 : Int) (H : Heap) (locs : List Loc) (ls : Array Slot), wp_X12_lays_58 K114 Q n σ x2 x4 x5 x6 x7 x8 → Hs D ct ad L φ N0 s.heap σ H locs → lv_has ls 10 [(0, .ref (ad 12 0)), (2, .int (iv x2)), (4, .int (iv x4)), (5, .int (iv x5)), (6, .int (iv x6)), (7, .int (iv x7)), (8, .int (iv x8))] → W p l e ({ frames := 1, cells := 0, slots := 0, locals := 22 } : Room) s m args below meth c H locs 0 0 (MQ below (Qi D ct ad L φ N0 Q) args s 0 0 (AA N0)) (F0 m 58 ls []) := by
  have hF := X.2.2.2.2.2.2.2.2.1
  intro n
  induction n with
  | zero => intro σ x2 x4 x5 x6 x7 x8 H locs ls hw; exact hw.elim
  | succ n ih =>
    intro σ x2 x4 x5 x6 x7 x8 H locs ls hw h hl
    unfold wp_X12_lays_58 at hw
    refine lv_iload X.1 X.2.1 dX12_lays_58 (lv_at hl 6 rfl) ?_
    obtain ⟨g_11, hwt, hwf⟩ := hw
    refine j_if_lt (tgt := 114) X g_11 dX12_lays_60 (by decide) (fun c_24 => ?_) (fun c_24 => ?_)
    · have hw := hwt c_24
      exact hK114 σ x2 x4 x5 x7 _ _ _ hw h (lv_sub hl [0, 1, 2, 3, 5] rfl)
    · have hw := hwf c_24
      refine lv_iload X.1 X.2.1 dX12_lays_63 (lv_at hl 5 rfl) ?_
      obtain ⟨g_12, hwt, hwf⟩ := hw
      refine j_if_eq (tgt := 114) X g_12 dX12_lays_65 (by decide) (fun c_23 => ?_) (fun c_23 => ?_)
      · have hw := hwt c_23
        exact hK114 σ x2 x4 x5 x7 _ _ _ hw h (lv_sub hl [0, 1, 2, 3, 5] rfl)
      · have hw := hwf c_23
        refine lv_iload X.1 X.2.1 dX12_lays_68 (lv_at hl 4 rfl) ?_
        refine j_bipush X dX12_lays_70 (by decide) ?_
        obtain ⟨g_13, hw⟩ := hw
        refine j_irem X g_13 ⟨by decide, by decide⟩ (by decide) (by decide) dX12_lays_72 ?_
        refine j_bind (fun v_14 ev_14 => ?_)
        have hw := hw v_14 ev_14
        refine lv_istore (lv' := [(9, .int (iv v_14)), (0, .ref (ad 12 0)), (2, .int (iv x2)), (4, .int (iv x4)), (5, .int (iv x5)), (6, .int (iv x6)), (7, .int (iv x7)), (8, .int (iv x8))]) X.1 X.2.1 dX12_lays_73 hl (by decide) rfl (fun ls hl => ?_)
        refine lv_iload X.1 X.2.1 dX12_lays_75 (lv_at hl 5 rfl) ?_
        refine j_bipush X dX12_lays_77 (by decide) ?_
        obtain ⟨g_15, hw⟩ := hw
        refine j_idiv X g_15 ⟨by decide, by decide⟩ (by decide) (by decide) dX12_lays_79 ?_
        refine j_bind (fun v_16 ev_16 => ?_)
        have hw := hw v_16 ev_16
        refine lv_istore (lv' := [(6, .int (iv v_16)), (9, .int (iv v_14)), (0, .ref (ad 12 0)), (2, .int (iv x2)), (4, .int (iv x4)), (5, .int (iv x5)), (7, .int (iv x7)), (8, .int (iv x8))]) X.1 X.2.1 dX12_lays_80 hl (by decide) rfl (fun ls hl => ?_)
        refine lv_iload X.1 X.2.1 dX12_lays_82 (lv_at hl 1 rfl) ?_
        refine j_iconst X dX12_lays_84 ?_
        refine j_bipush X dX12_lays_85 (by decide) ?_
        refine k_i h (r_S (As := [.int (iv v_14), .int (iv 2), .int (iv 6)]) (rest := []) X h (c_X12_within l D ct ad L φ N0 σ v_14 2 6 _ hw) rfl rfl ⟨Nat.le_of_ble_eq_true rfl, Nat.le_of_ble_eq_true rfl⟩ kw_1959 kw_1960 kw_129 kw_1961 pd_X12_within rfl hl.1 rfl (Nat.le_of_ble_eq_true rfl) ⟨Nat.le_of_ble_eq_true rfl, Nat.le_of_ble_eq_true rfl⟩ dX12_lays_87) (fun r_18 σ_17 H locs hw h => ?_)
        refine lv_istore (lv' := [(7, .int (iv r_18)), (6, .int (iv v_16)), (9, .int (iv v_14)), (0, .ref (ad 12 0)), (2, .int (iv x2)), (4, .int (iv x4)), (5, .int (iv x5)), (8, .int (iv x8))]) X.1 X.2.1 dX12_lays_90 hl (by decide) rfl (fun ls hl => ?_)
        refine lv_aload_n X.1 X.2.1 dX12_lays_92 rfl (lv_at hl 3 rfl) ?_
        refine r_getR (ci := 12) X inw_12 h (hF.1 12 rfl).1 rfl rfl 14 (by decide) kw_1652 rfl ((hF.1 12 rfl).2 14) dX12_lays_93 ?_
        refine lv_iload X.1 X.2.1 dX12_lays_96 (lv_at hl 7 rfl) ?_
        refine lv_iload X.1 X.2.1 dX12_lays_98 (lv_at hl 2 rfl) ?_
        obtain ⟨g_19, g_20, hw⟩ := hw
        refine r_iast (n := 8) X h (hF.1 93 rfl).1 (fun _ => rfl) (by decide) g_19 g_20 rfl dX12_lays_100 (fun H locs h => ?_)
        obtain ⟨σ_21, eσ_21⟩ : ∃ z : St, z = st σ_17 93 0 (Int.toNat x8) v_14 := ⟨_, rfl⟩
        rw [← eσ_21] at h
        have hw := hw σ_21 eσ_21
        refine lv_iload X.1 X.2.1 dX12_lays_101 (lv_at hl 6 rfl) ?_
        refine lv_iload X.1 X.2.1 dX12_lays_103 (lv_at hl 2 rfl) ?_
        refine j_iadd X dX12_lays_105 ?_
        refine j_bind (fun v_22 ev_22 => ?_)
        have hw := hw v_22 ev_22
        refine lv_istore (lv' := [(5, .int (iv v_22)), (7, .int (iv r_18)), (6, .int (iv v_16)), (9, .int (iv v_14)), (0, .ref (ad 12 0)), (2, .int (iv x2)), (4, .int (iv x4)), (8, .int (iv x8))]) X.1 X.2.1 dX12_lays_106 hl (by decide) rfl (fun ls hl => ?_)
        refine j_iinc (kk9 := 7) (lv' := [(8, .int (iv (x8 + (-1)))), (5, .int (iv v_22)), (7, .int (iv r_18)), (6, .int (iv v_16)), (9, .int (iv v_14)), (0, .ref (ad 12 0)), (2, .int (iv x2)), (4, .int (iv x4))]) X dX12_lays_108 hl rfl (by decide) rfl (fun ls hl => ?_)
        refine lv_goto (tgt := 58) X.1 X.2.1 dX12_lays_111 (by decide) ?_
        exact ih σ_21 x2 x4 v_22 v_16 r_18 (x8 + (-1)) _ _ _ hw h (lv_sub hl [5, 6, 7, 1, 3, 2, 0] rfl)
set_option maxRecDepth 100000 in
set_option maxHeartbeats 4000000 in
theorem lb_X12_lays_50 (X : Cx p s m meth c args cX12_lays 10 (some .boolean) RX12 D ct L φ N0) (σ : St) (x2 : Int) (x4 : Int) (x5 : Int) (x6 : Int) (y0 : Int) (H : Heap) (locs : List Loc) (ls : Array Slot) (hw : wp_X12_lays_50 Q σ x2 x4 x5 x6 y0) (h : Hs D ct ad L φ N0 s.heap σ H locs) (hl : lv_has ls 10 [(0, .ref (ad 12 0)), (2, .int (iv x2)), (4, .int (iv x4)), (5, .int (iv x5)), (6, .int (iv x6))]) : W p l e ({ frames := 1, cells := 0, slots := 0, locals := 22 } : Room) s m args below meth c H locs 0 0 (MQ below (Qi D ct ad L φ N0 Q) args s 0 0 (AA N0)) (F0 m 50 ls [.int (iv y0)]) := by
  have hF := X.2.2.2.2.2.2.2.2.1
  unfold wp_X12_lays_50 at hw
  refine lv_istore (lv' := [(7, .int (iv y0)), (0, .ref (ad 12 0)), (2, .int (iv x2)), (4, .int (iv x4)), (5, .int (iv x5)), (6, .int (iv x6))]) X.1 X.2.1 dX12_lays_50 hl (by decide) rfl (fun ls hl => ?_)
  refine lv_iload X.1 X.2.1 dX12_lays_52 (lv_at hl 3 rfl) ?_
  refine j_iconst X dX12_lays_54 ?_
  refine j_isub X dX12_lays_55 ?_
  refine j_bind (fun v_25 ev_25 => ?_)
  have hw := hw v_25 ev_25
  refine lv_istore (lv' := [(8, .int (iv v_25)), (7, .int (iv y0)), (0, .ref (ad 12 0)), (2, .int (iv x2)), (4, .int (iv x4)), (5, .int (iv x5)), (6, .int (iv x6))]) X.1 X.2.1 dX12_lays_56 hl (by decide) rfl (fun ls hl => ?_)
  exact hw.elim (fun n58 hw => lb_X12_lays_58 X (lb_X12_lays_114 X) n58 σ x2 x4 x5 x6 y0 v_25 _ _ _ hw h (lv_sub hl [2, 3, 4, 5, 6, 1, 0] rfl))
set_option maxRecDepth 100000 in
set_option maxHeartbeats 4000000 in
theorem lb_X12_lays_49 (X : Cx p s m meth c args cX12_lays 10 (some .boolean) RX12 D ct L φ N0) (σ : St) (x2 : Int) (x4 : Int) (x5 : Int) (x6 : Int) (H : Heap) (locs : List Loc) (ls : Array Slot) (hw : wp_X12_lays_49 Q σ x2 x4 x5 x6) (h : Hs D ct ad L φ N0 s.heap σ H locs) (hl : lv_has ls 10 [(0, .ref (ad 12 0)), (2, .int (iv x2)), (4, .int (iv x4)), (5, .int (iv x5)), (6, .int (iv x6))]) : W p l e ({ frames := 1, cells := 0, slots := 0, locals := 22 } : Room) s m args below meth c H locs 0 0 (MQ below (Qi D ct ad L φ N0 Q) args s 0 0 (AA N0)) (F0 m 49 ls []) := by
  have hF := X.2.2.2.2.2.2.2.2.1
  unfold wp_X12_lays_49 at hw
  refine j_iconst X dX12_lays_49 ?_
  exact lb_X12_lays_50 X σ x2 x4 x5 x6 0 _ _ _ hw h (lv_sub hl [0, 1, 2, 3, 4] rfl)
set_option maxRecDepth 100000 in
set_option maxHeartbeats 4000000 in
theorem lb_X12_lays_29 (X : Cx p s m meth c args cX12_lays 10 (some .boolean) RX12 D ct L φ N0) (σ : St) (x2 : Int) (x3 : Int) (x4 : Int) (H : Heap) (locs : List Loc) (ls : Array Slot) (hw : wp_X12_lays_29 Q σ x2 x3 x4) (h : Hs D ct ad L φ N0 s.heap σ H locs) (hl : lv_has ls 10 [(0, .ref (ad 12 0)), (2, .int (iv x2)), (3, .int (iv x3)), (4, .int (iv x4))]) : W p l e ({ frames := 1, cells := 0, slots := 0, locals := 22 } : Room) s m args below meth c H locs 0 0 (MQ below (Qi D ct ad L φ N0 Q) args s 0 0 (AA N0)) (F0 m 29 ls []) := by
  have hF := X.2.2.2.2.2.2.2.2.1
  unfold wp_X12_lays_29 at hw
  refine j_iconst X dX12_lays_29 ?_
  refine lv_istore (lv' := [(5, .int (iv 0)), (0, .ref (ad 12 0)), (2, .int (iv x2)), (3, .int (iv x3)), (4, .int (iv x4))]) X.1 X.2.1 dX12_lays_30 hl (by decide) rfl (fun ls hl => ?_)
  refine lv_iload_n X.1 X.2.1 dX12_lays_32 rfl (lv_at hl 3 rfl) ?_
  refine lv_istore (lv' := [(6, .int (iv x3)), (5, .int (iv 0)), (0, .ref (ad 12 0)), (2, .int (iv x2)), (3, .int (iv x3)), (4, .int (iv x4))]) X.1 X.2.1 dX12_lays_33 hl (by decide) rfl (fun ls hl => ?_)
  refine lv_iload_n X.1 X.2.1 dX12_lays_35 rfl (lv_at hl 4 rfl) ?_
  obtain ⟨g_26, hwt, hwf⟩ := hw
  refine j_if_le (tgt := 49) X g_26 dX12_lays_36 (by decide) (fun c_29 => ?_) (fun c_29 => ?_)
  · have hw := hwt c_29
    exact lb_X12_lays_49 X σ x2 x4 0 x3 _ _ _ hw h (lv_sub hl [2, 3, 5, 1, 0] rfl)
  · have hw := hwf c_29
    refine lv_iload X.1 X.2.1 dX12_lays_39 (lv_at hl 5 rfl) ?_
    refine j_iconst X dX12_lays_41 ?_
    obtain ⟨g_27, hwt, hwf⟩ := hw
    refine j_cmp_gt (tgt := 49) X g_27 ⟨by decide, by decide⟩ dX12_lays_42 (by decide) (fun c_28 => ?_) (fun c_28 => ?_)
    · have hw := hwt c_28
      exact lb_X12_lays_49 X σ x2 x4 0 x3 _ _ _ hw h (lv_sub hl [2, 3, 5, 1, 0] rfl)
    · have hw := hwf c_28
      refine j_iconst X dX12_lays_45 ?_
      refine lv_goto (tgt := 50) X.1 X.2.1 dX12_lays_46 (by decide) ?_
      exact lb_X12_lays_50 X σ x2 x4 0 x3 1 _ _ _ hw h (lv_sub hl [2, 3, 5, 1, 0] rfl)
set_option maxRecDepth 100000 in
set_option maxHeartbeats 4000000 in
theorem lb_X12_lays_11 (X : Cx p s m meth c args cX12_lays 10 (some .boolean) RX12 D ct L φ N0) {K29 : St → Int → Int → Int → Prop} (hK29 : ∀ (σ : St) (x2 : Int) (x3 : Int) (x4 : Int) (H : Heap) (locs : List Loc) (ls : Array Slot), K29 σ x2 x3 x4 → Hs D ct ad L φ N0 s.heap σ H locs → lv_has ls 10 [(0, .ref (ad 12 0)), (2, .int (iv x2)), (3, .int (iv x3)), (4, .int (iv x4))] → W p l e ({ frames := 1, cells := 0, slots := 0, locals := 22 } : Room) s m args below meth c H locs 0 0 (MQ below (Qi D ct ad L φ N0 Q) args s 0 0 (AA N0)) (F0 m 29 ls [])) : ∀ (n : Nat) (σ : St) (x2 : Int) (x3 : Int) (x4 : Int) (x5 : Int) (H : Heap) (locs : List Loc) (ls : Array Slot), wp_X12_lays_11 K29 Q n σ x2 x3 x4 x5 → Hs D ct ad L φ N0 s.heap σ H locs → lv_has ls 10 [(0, .ref (ad 12 0)), (2, .int (iv x2)), (3, .int (iv x3)), (4, .int (iv x4)), (5, .int (iv x5))] → W p l e ({ frames := 1, cells := 0, slots := 0, locals := 22 } : Room) s m args below meth c H locs 0 0 (MQ below (Qi D ct ad L φ N0 Q) args s 0 0 (AA N0)) (F0 m 11 ls []) := by
  have hF := X.2.2.2.2.2.2.2.2.1
  intro n
  induction n with
  | zero => intro σ x2 x3 x4 x5 H locs ls hw; exact hw.elim
  | succ n ih =>
    intro σ x2 x3 x4 x5 H locs ls hw h hl
    unfold wp_X12_lays_11 at hw
    refine lv_iload X.1 X.2.1 dX12_lays_11 (lv_at hl 4 rfl) ?_
    obtain ⟨g_30, hwt, hwf⟩ := hw
    refine j_if_le (tgt := 29) X g_30 dX12_lays_13 (by decide) (fun c_33 => ?_) (fun c_33 => ?_)
    · have hw := hwt c_33
      exact hK29 σ x2 x3 x4 _ _ _ hw h (lv_sub hl [0, 1, 2, 3] rfl)
    · have hw := hwf c_33
      refine j_iinc (kk9 := 3) (lv' := [(4, .int (iv (x4 + 1))), (0, .ref (ad 12 0)), (2, .int (iv x2)), (3, .int (iv x3)), (5, .int (iv x5))]) X dX12_lays_16 hl rfl (by decide) rfl (fun ls hl => ?_)
      refine lv_iload X.1 X.2.1 dX12_lays_19 (lv_at hl 4 rfl) ?_
      refine j_bipush X dX12_lays_21 (by decide) ?_
      obtain ⟨g_31, hw⟩ := hw
      refine j_idiv X g_31 ⟨by decide, by decide⟩ (by decide) (by decide) dX12_lays_23 ?_
      refine j_bind (fun v_32 ev_32 => ?_)
      have hw := hw v_32 ev_32
      refine lv_istore (lv' := [(5, .int (iv v_32)), (4, .int (iv (x4 + 1))), (0, .ref (ad 12 0)), (2, .int (iv x2)), (3, .int (iv x3))]) X.1 X.2.1 dX12_lays_24 hl (by decide) rfl (fun ls hl => ?_)
      refine lv_goto (tgt := 11) X.1 X.2.1 dX12_lays_26 (by decide) ?_
      exact ih σ x2 x3 (x4 + 1) v_32 _ _ _ hw h (lv_sub hl [2, 3, 4, 1, 0] rfl)
theorem pd_X12_lays : yX12_lays.cls ≠ "java/lang/invoke/MethodHandle" ∧ yX12_lays.cls ≠ "java/lang/invoke/VarHandle" ∧ (parseMethodDescriptor yX12_lays.desc).map (fun d => d.parameters.length) = some 3 := by decide +kernel
set_option maxRecDepth 100000 in
set_option maxHeartbeats 4000000 in
theorem c_X12_lays (l : Launch) (D : va_G) (ct : Nat → ClassId) (ad : Nat → Nat → Nat) (L : List (Nat × Nat)) (φ : Nat → Nat → Nat → Bool) (N0 : Nat) (σ : St) (x1 : Int) (x2 : Int) (x3 : Int) (Q : Int → St → Prop) (hw : wp_X12_lays σ x1 x2 x3 Q) : Met l yX12_lays (.code yX12_lays cX12_lays 10 (some .boolean) :: gw) ({ frames := 1, cells := 0, slots := 0, locals := 22 } : Room) (Pm D ct ad L φ N0 σ [.ref (ad 12 0), .int (iv x1), .int (iv x2), .int (iv x3)]) (Qi D ct ad L φ N0 Q) 0 0 (AA N0) := by
  refine m_of (by decide) (fun p e s m below meth c X hnm h => ?_)
  have hF := X.2.2.2.2.2.2.2.2.1
  have hl := lv_entry ([.ref (ad 12 0), .int (iv x1), .int (iv x2), .int (iv x3)]) (n := 10) (Nat.le_of_ble_eq_true rfl)
  rw [lg_entry_eq]
  generalize (lg_sl ([.ref (ad 12 0), .int (iv x1), .int (iv x2), .int (iv x3)]) ++ List.replicate (10 - (lg_sl ([.ref (ad 12 0), .int (iv x1), .int (iv x2), .int (iv x3)])).length) Slot.unset).toArray = ls at hl ⊢
  have hl : lv_has ls 10 [(0, .ref (ad 12 0)), (1, .int (iv x1)), (2, .int (iv x2)), (3, .int (iv x3))] := hl
  have h : Hs D ct ad L φ N0 s.heap σ s.heap [] := h
  unfold wp_X12_lays at hw
  refine lv_aload_n X.1 X.2.1 dX12_lays_0 rfl (lv_at hl 0 rfl) ?_
  refine j_iconst X dX12_lays_1 ?_
  refine r_put (ci := 12) X inw_12 tyX12 tyX12_ok nmX12 h (hF.1 12 rfl).1 rfl rfl 15 (by decide) kw_1653 rfl rfl rfl (Nat.le_of_ble_eq_true rfl) rfl rfl dX12_lays_2 (fun H locs h => ?_)
  obtain ⟨σ_34, eσ_34⟩ : ∃ z : St, z = st σ 12 0 15 0 := ⟨_, rfl⟩
  rw [← eσ_34] at h
  have hw := hw σ_34 eσ_34
  refine j_iconst X dX12_lays_5 ?_
  refine lv_istore (lv' := [(4, .int (iv 0)), (0, .ref (ad 12 0)), (1, .int (iv x1)), (2, .int (iv x2)), (3, .int (iv x3))]) X.1 X.2.1 dX12_lays_6 hl (by decide) rfl (fun ls hl => ?_)
  refine lv_iload_n X.1 X.2.1 dX12_lays_8 rfl (lv_at hl 4 rfl) ?_
  refine lv_istore (lv' := [(5, .int (iv x3)), (4, .int (iv 0)), (0, .ref (ad 12 0)), (1, .int (iv x1)), (2, .int (iv x2)), (3, .int (iv x3))]) X.1 X.2.1 dX12_lays_9 hl (by decide) rfl (fun ls hl => ?_)
  exact hw.elim (fun n11 hw => lb_X12_lays_11 X (lb_X12_lays_29 X) n11 σ_34 x2 x3 0 x3 _ _ _ hw h (lv_sub hl [2, 4, 5, 1, 0] rfl))
end
section
variable {p : Program} {l : Launch} {e : Env} {s : State} {m : MethodId} {args : Array Value} {below : List Frame} {meth : Method} {c : Code} {D : va_G} {ct : Nat → ClassId} {ad : Nat → Nat → Nat} {L : List (Nat × Nat)} {φ : Nat → Nat → Nat → Bool} {N0 : Nat}
variable {Q : Int → St → Prop}
set_option maxRecDepth 100000 in
set_option maxHeartbeats 4000000 in
theorem lb_X12_worth_34 (X : Cx p s m meth c args cX12_worth 7 (some .int) RX12 D ct L φ N0) : ∀ (n : Nat) (σ : St) (x1 : Int) (x2 : Int) (x4 : Int) (x5 : Int) (x6 : Int) (H : Heap) (locs : List Loc) (ls : Array Slot), wp_X12_worth_34 Q n σ x1 x2 x4 x5 x6 → Hs D ct ad L φ N0 s.heap σ H locs → lv_has ls 7 [(0, .ref (ad 12 0)), (1, .int (iv x1)), (2, .int (iv x2)), (4, .int (iv x4)), (5, .int (iv x5)), (6, .int (iv x6))] → W p l e ({ frames := 2, cells := 0, slots := 0, locals := 51 } : Room) s m args below meth c H locs 0 0 (MQ below (Qi D ct ad L φ N0 Q) args s 0 0 (AA N0)) (F0 m 34 ls []) := by
  have hF := X.2.2.2.2.2.2.2.2.1
  intro n
  induction n with
  | zero => intro σ x1 x2 x4 x5 x6 H locs ls hw; exact hw.elim
  | succ n ih =>
    intro σ x1 x2 x4 x5 x6 H locs ls hw h hl
    unfold wp_X12_worth_34 at hw
    refine lv_iload X.1 X.2.1 dX12_worth_34 (lv_at hl 5 rfl) ?_
    refine lv_aload_n X.1 X.2.1 dX12_worth_36 rfl (lv_at hl 0 rfl) ?_
    refine r_get (ci := 12) X inw_12 h (hF.1 12 rfl).1 rfl rfl 15 (by decide) kw_1653 rfl dX12_worth_37 ?_
    obtain ⟨g_1, g_2, hwt, hwf⟩ := hw
    refine j_cmp_ge (tgt := 87) X g_1 g_2 dX12_worth_40 (by decide) (fun c_13 => ?_) (fun c_13 => ?_)
    · have hw := hwt c_13
      refine lv_iload X.1 X.2.1 dX12_worth_87 (lv_at hl 4 rfl) ?_
      exact k_ir X rfl h hw dX12_worth_89
    · have hw := hwf c_13
      refine lv_iload X.1 X.2.1 dX12_worth_43 (lv_at hl 3 rfl) ?_
      refine lv_aload_n X.1 X.2.1 dX12_worth_45 rfl (lv_at hl 0 rfl) ?_
      refine r_getR (ci := 12) X inw_12 h (hF.1 12 rfl).1 rfl rfl 14 (by decide) kw_1652 rfl ((hF.1 12 rfl).2 14) dX12_worth_46 ?_
      refine lv_iload X.1 X.2.1 dX12_worth_49 (lv_at hl 5 rfl) ?_
      obtain ⟨g_3, g_4, hw⟩ := hw
      refine r_iald (n := 8) X h (hF.1 93 rfl).1 rfl (by decide) g_3 g_4 dX12_worth_51 ?_
      refine j_iadd X dX12_worth_52 ?_
      refine j_bind (fun v_5 ev_5 => ?_)
      have hw := hw v_5 ev_5
      refine lv_istore (lv' := [(4, .int (iv v_5)), (0, .ref (ad 12 0)), (1, .int (iv x1)), (2, .int (iv x2)), (5, .int (iv x5)), (6, .int (iv x6))]) X.1 X.2.1 dX12_worth_53 hl (by decide) rfl (fun ls hl => ?_)
      refine lv_iload X.1 X.2.1 dX12_worth_55 (lv_at hl 4 rfl) ?_
      refine lv_aload_n X.1 X.2.1 dX12_worth_57 rfl (lv_at hl 1 rfl) ?_
      refine r_getR (ci := 12) X inw_12 h (hF.1 12 rfl).1 rfl rfl 13 (by decide) kw_1651 rfl ((hF.1 12 rfl).2 13) dX12_worth_58 ?_
      refine lv_aload_n X.1 X.2.1 dX12_worth_61 rfl (lv_at hl 1 rfl) ?_
      refine r_getR (ci := 12) X inw_12 h (hF.1 12 rfl).1 rfl rfl 14 (by decide) kw_1652 rfl ((hF.1 12 rfl).2 14) dX12_worth_62 ?_
      refine lv_iload X.1 X.2.1 dX12_worth_65 (lv_at hl 5 rfl) ?_
      obtain ⟨g_6, g_7, hw⟩ := hw
      refine r_iald (n := 8) X h (hF.1 93 rfl).1 rfl (by decide) g_6 g_7 dX12_worth_67 ?_
      obtain ⟨g_8, g_9, hw⟩ := hw
      refine r_iald (n := 7) X h (hF.1 92 rfl).1 rfl (by decide) g_8 g_9 dX12_worth_68 ?_
      refine lv_aload_n X.1 X.2.1 dX12_worth_69 rfl (lv_at hl 1 rfl) ?_
      refine lv_iload_n X.1 X.2.1 dX12_worth_70 rfl (lv_at hl 2 rfl) ?_
      refine lv_iload_n X.1 X.2.1 dX12_worth_71 rfl (lv_at hl 3 rfl) ?_
      refine lv_iload X.1 X.2.1 dX12_worth_72 (lv_at hl 0 rfl) ?_
      refine k_i h (r_V (C := RX12) (ci := 12) (As := [.int (iv x1), .int (iv x2), .int (iv v_5)]) (rest := [.int (iv (σ 92 0 (Int.toNat (σ 93 0 (Int.toNat x6))))), .int (iv x5)]) X h (c_X12_wideAt l D ct ad L φ N0 σ x1 x2 v_5 _ hw) rfl rfl ⟨Nat.le_of_ble_eq_true rfl, Nat.le_of_ble_eq_true rfl⟩ kw_2007 kw_2009 kw_67 kw_129 kw_2010 ⟨rfl, pd_X12_wideAt⟩ (hF.1 12 rfl).1 rfl rfl rfl hl.1 rfl (Nat.le_of_ble_eq_true rfl) ⟨Nat.le_of_ble_eq_true rfl, Nat.le_of_ble_eq_true rfl⟩ dX12_worth_74) (fun r_11 σ_10 H locs hw h => ?_)
      refine j_imul X dX12_worth_77 ?_
      refine j_iadd X dX12_worth_78 ?_
      refine j_bind (fun v_12 ev_12 => ?_)
      have hw := hw v_12 ev_12
      refine lv_istore (lv' := [(5, .int (iv v_12)), (4, .int (iv v_5)), (0, .ref (ad 12 0)), (1, .int (iv x1)), (2, .int (iv x2)), (6, .int (iv x6))]) X.1 X.2.1 dX12_worth_79 hl (by decide) rfl (fun ls hl => ?_)
      refine j_iinc (kk9 := 5) (lv' := [(6, .int (iv (x6 + 1))), (5, .int (iv v_12)), (4, .int (iv v_5)), (0, .ref (ad 12 0)), (1, .int (iv x1)), (2, .int (iv x2))]) X dX12_worth_81 hl rfl (by decide) rfl (fun ls hl => ?_)
      refine lv_goto (tgt := 34) X.1 X.2.1 dX12_worth_84 (by decide) ?_
      exact ih σ_10 x1 x2 v_5 v_12 (x6 + 1) _ _ _ hw h (lv_sub hl [3, 4, 5, 2, 1, 0] rfl)
theorem pd_X12_worth : yX12_worth.cls ≠ "java/lang/invoke/MethodHandle" ∧ yX12_worth.cls ≠ "java/lang/invoke/VarHandle" ∧ (parseMethodDescriptor yX12_worth.desc).map (fun d => d.parameters.length) = some 3 := by decide +kernel
set_option maxRecDepth 100000 in
set_option maxHeartbeats 4000000 in
theorem c_X12_worth (l : Launch) (D : va_G) (ct : Nat → ClassId) (ad : Nat → Nat → Nat) (L : List (Nat × Nat)) (φ : Nat → Nat → Nat → Bool) (N0 : Nat) (σ : St) (x1 : Int) (x2 : Int) (x3 : Int) (Q : Int → St → Prop) (hw : wp_X12_worth σ x1 x2 x3 Q) : Met l yX12_worth (.code yX12_worth cX12_worth 7 (some .int) :: gw) ({ frames := 2, cells := 0, slots := 0, locals := 51 } : Room) (Pm D ct ad L φ N0 σ [.ref (ad 12 0), .int (iv x1), .int (iv x2), .int (iv x3)]) (Qi D ct ad L φ N0 Q) 0 0 (AA N0) := by
  refine m_of (by decide) (fun p e s m below meth c X hnm h => ?_)
  have hF := X.2.2.2.2.2.2.2.2.1
  have hl := lv_entry ([.ref (ad 12 0), .int (iv x1), .int (iv x2), .int (iv x3)]) (n := 7) (Nat.le_of_ble_eq_true rfl)
  rw [lg_entry_eq]
  generalize (lg_sl ([.ref (ad 12 0), .int (iv x1), .int (iv x2), .int (iv x3)]) ++ List.replicate (7 - (lg_sl ([.ref (ad 12 0), .int (iv x1), .int (iv x2), .int (iv x3)])).length) Slot.unset).toArray = ls at hl ⊢
  have hl : lv_has ls 7 [(0, .ref (ad 12 0)), (1, .int (iv x1)), (2, .int (iv x2)), (3, .int (iv x3))] := hl
  have h : Hs D ct ad L φ N0 s.heap σ s.heap [] := h
  unfold wp_X12_worth at hw
  refine lv_aload_n X.1 X.2.1 dX12_worth_0 rfl (lv_at hl 0 rfl) ?_
  refine j_iconst X dX12_worth_1 ?_
  refine r_put (ci := 12) X inw_12 tyX12 tyX12_ok nmX12 h (hF.1 12 rfl).1 rfl rfl 0 (by decide) kw_1638 rfl rfl rfl (Nat.le_of_ble_eq_true rfl) rfl rfl dX12_worth_2 (fun H locs h => ?_)
  obtain ⟨σ_14, eσ_14⟩ : ∃ z : St, z = st σ 12 0 0 0 := ⟨_, rfl⟩
  rw [← eσ_14] at h
  have hw := hw σ_14 eσ_14
  refine lv_iload_n X.1 X.2.1 dX12_worth_5 rfl (lv_at hl 1 rfl) ?_
  refine lv_iload_n X.1 X.2.1 dX12_worth_6 rfl (lv_at hl 2 rfl) ?_
  refine k_i h (r_S (As := [.int (iv x1), .int (iv x2)]) (rest := []) X h (c_X12_isStem l D ct ad L φ N0 σ_14 x1 x2 _ hw) rfl rfl ⟨Nat.le_of_ble_eq_true rfl, Nat.le_of_ble_eq_true rfl⟩ kw_1966 kw_1967 kw_129 kw_1968 pd_X12_isStem rfl hl.1 rfl (Nat.le_of_ble_eq_true rfl) ⟨Nat.le_of_ble_eq_true rfl, Nat.le_of_ble_eq_true rfl⟩ dX12_worth_7) (fun r_16 σ_15 H locs hw h => ?_)
  obtain ⟨g_17, hwt, hwf⟩ := hw
  refine j_if_eq (tgt := 23) X g_17 dX12_worth_10 (by decide) (fun c_22 => ?_) (fun c_22 => ?_)
  · have hw := hwt c_22
    refine j_iconst X dX12_worth_23 ?_
    exact k_ir X rfl h hw dX12_worth_24
  · have hw := hwf c_22
    refine lv_aload_n X.1 X.2.1 dX12_worth_13 rfl (lv_at hl 0 rfl) ?_
    refine lv_iload_n X.1 X.2.1 dX12_worth_14 rfl (lv_at hl 1 rfl) ?_
    refine lv_iload_n X.1 X.2.1 dX12_worth_15 rfl (lv_at hl 2 rfl) ?_
    refine lv_iload_n X.1 X.2.1 dX12_worth_16 rfl (lv_at hl 3 rfl) ?_
    refine k_i h (r_V (C := RX12) (ci := 12) (As := [.int (iv x1), .int (iv x2), .int (iv x3)]) (rest := []) X h (c_X12_lays l D ct ad L φ N0 σ_15 x1 x2 x3 _ hw) rfl rfl ⟨Nat.le_of_ble_eq_true rfl, Nat.le_of_ble_eq_true rfl⟩ kw_2019 kw_2021 kw_68 kw_129 kw_2022 ⟨rfl, pd_X12_lays⟩ (hF.1 12 rfl).1 rfl rfl rfl hl.1 rfl (Nat.le_of_ble_eq_true rfl) ⟨Nat.le_of_ble_eq_true rfl, Nat.le_of_ble_eq_true rfl⟩ dX12_worth_17) (fun r_19 σ_18 H locs hw h => ?_)
    obtain ⟨g_20, hwt, hwf⟩ := hw
    refine j_if_ne (tgt := 25) X g_20 dX12_worth_20 (by decide) (fun c_21 => ?_) (fun c_21 => ?_)
    · have hw := hwt c_21
      refine j_iconst X dX12_worth_25 ?_
      refine lv_istore (lv' := [(4, .int (iv 0)), (0, .ref (ad 12 0)), (1, .int (iv x1)), (2, .int (iv x2)), (3, .int (iv x3))]) X.1 X.2.1 dX12_worth_26 hl (by decide) rfl (fun ls hl => ?_)
      refine j_iconst X dX12_worth_28 ?_
      refine lv_istore (lv' := [(5, .int (iv 0)), (4, .int (iv 0)), (0, .ref (ad 12 0)), (1, .int (iv x1)), (2, .int (iv x2)), (3, .int (iv x3))]) X.1 X.2.1 dX12_worth_29 hl (by decide) rfl (fun ls hl => ?_)
      refine j_iconst X dX12_worth_31 ?_
      refine lv_istore (lv' := [(6, .int (iv 0)), (5, .int (iv 0)), (4, .int (iv 0)), (0, .ref (ad 12 0)), (1, .int (iv x1)), (2, .int (iv x2)), (3, .int (iv x3))]) X.1 X.2.1 dX12_worth_32 hl (by decide) rfl (fun ls hl => ?_)
      exact hw.elim (fun n34 hw => lb_X12_worth_34 X n34 σ_18 x1 x2 0 0 0 _ _ _ hw h (lv_sub hl [3, 4, 5, 2, 1, 0] rfl))
    · have hw := hwf c_21
      refine j_iconst X dX12_worth_23 ?_
      exact k_ir X rfl h hw dX12_worth_24
end
section
variable {p : Program} {l : Launch} {e : Env} {s : State} {m : MethodId} {args : Array Value} {below : List Frame} {meth : Method} {c : Code} {D : va_G} {ct : Nat → ClassId} {ad : Nat → Nat → Nat} {L : List (Nat × Nat)} {φ : Nat → Nat → Nat → Bool} {N0 : Nat}
variable {Q : Int → St → Prop}
theorem pd_X12_isLog : yX12_isLog.cls ≠ "java/lang/invoke/MethodHandle" ∧ yX12_isLog.cls ≠ "java/lang/invoke/VarHandle" ∧ (parseMethodDescriptor yX12_isLog.desc).map (fun d => d.parameters.length) = some 1 := by decide +kernel
set_option maxRecDepth 100000 in
set_option maxHeartbeats 4000000 in
theorem c_X12_isLog (l : Launch) (D : va_G) (ct : Nat → ClassId) (ad : Nat → Nat → Nat) (L : List (Nat × Nat)) (φ : Nat → Nat → Nat → Bool) (N0 : Nat) (σ : St) (x1 : Int) (Q : Int → St → Prop) (hw : wp_X12_isLog σ x1 Q) : Met l yX12_isLog (.code yX12_isLog cX12_isLog 2 (some .boolean) :: gw) ({ frames := 1, cells := 0, slots := 0, locals := 22 } : Room) (Pm D ct ad L φ N0 σ [.ref (ad 12 0), .int (iv x1)]) (Qi D ct ad L φ N0 Q) 0 0 (AA N0) := by
  refine m_of (by decide) (fun p e s m below meth c X hnm h => ?_)
  have hF := X.2.2.2.2.2.2.2.2.1
  have hl := lv_entry ([.ref (ad 12 0), .int (iv x1)]) (n := 2) (Nat.le_of_ble_eq_true rfl)
  rw [lg_entry_eq]
  generalize (lg_sl ([.ref (ad 12 0), .int (iv x1)]) ++ List.replicate (2 - (lg_sl ([.ref (ad 12 0), .int (iv x1)])).length) Slot.unset).toArray = ls at hl ⊢
  have hl : lv_has ls 2 [(0, .ref (ad 12 0)), (1, .int (iv x1))] := hl
  have h : Hs D ct ad L φ N0 s.heap σ s.heap [] := h
  unfold wp_X12_isLog at hw
  refine lv_iload_n X.1 X.2.1 dX12_isLog_0 rfl (lv_at hl 1 rfl) ?_
  refine j_iconst X dX12_isLog_1 ?_
  refine lv_aload_n X.1 X.2.1 dX12_isLog_2 rfl (lv_at hl 0 rfl) ?_
  refine r_get (ci := 12) X inw_12 h (hF.1 12 rfl).1 rfl rfl 17 (by decide) kw_1655 rfl dX12_isLog_3 ?_
  refine j_iconst X dX12_isLog_6 ?_
  refine j_isub X dX12_isLog_7 ?_
  refine k_i h (r_S (As := [.int (iv x1), .int (iv 0), .int (iv ((σ 12 0 17) - 1))]) (rest := []) X h (c_X12_within l D ct ad L φ N0 σ x1 0 ((σ 12 0 17) - 1) _ hw) rfl rfl ⟨Nat.le_of_ble_eq_true rfl, Nat.le_of_ble_eq_true rfl⟩ kw_1959 kw_1960 kw_129 kw_1961 pd_X12_within rfl hl.1 rfl (Nat.le_of_ble_eq_true rfl) ⟨Nat.le_of_ble_eq_true rfl, Nat.le_of_ble_eq_true rfl⟩ dX12_isLog_8) (fun r_2 σ_1 H locs hw h => ?_)
  obtain ⟨g_3, hw⟩ := hw
  exact k_ir X (nb_n g_3) h hw dX12_isLog_11
end
section
variable {p : Program} {l : Launch} {e : Env} {s : State} {m : MethodId} {args : Array Value} {below : List Frame} {meth : Method} {c : Code} {D : va_G} {ct : Nat → ClassId} {ad : Nat → Nat → Nat} {L : List (Nat × Nat)} {φ : Nat → Nat → Nat → Bool} {N0 : Nat}
variable {Q : St → Prop}
theorem pd_X12_becomes : yX12_becomes.cls ≠ "java/lang/invoke/MethodHandle" ∧ yX12_becomes.cls ≠ "java/lang/invoke/VarHandle" ∧ (parseMethodDescriptor yX12_becomes.desc).map (fun d => d.parameters.length) = some 2 := by decide +kernel
set_option maxRecDepth 100000 in
set_option maxHeartbeats 4000000 in
theorem c_X12_becomes (l : Launch) (D : va_G) (ct : Nat → ClassId) (ad : Nat → Nat → Nat) (L : List (Nat × Nat)) (φ : Nat → Nat → Nat → Bool) (N0 : Nat) (σ : St) (x1 : Int) (x2 : Int) (Q : St → Prop) (hw : wp_X12_becomes σ x1 x2 Q) : Met l yX12_becomes (.code yX12_becomes cX12_becomes 3 none :: gw) ({ frames := 2, cells := 0, slots := 0, locals := 42 } : Room) (Pm D ct ad L φ N0 σ [.ref (ad 12 0), .int (iv x1), .int (iv x2)]) (Qv D ct ad L φ N0 Q) 0 0 (AA N0) := by
  refine m_of (by decide) (fun p e s m below meth c X hnm h => ?_)
  have hF := X.2.2.2.2.2.2.2.2.1
  have hl := lv_entry ([.ref (ad 12 0), .int (iv x1), .int (iv x2)]) (n := 3) (Nat.le_of_ble_eq_true rfl)
  rw [lg_entry_eq]
  generalize (lg_sl ([.ref (ad 12 0), .int (iv x1), .int (iv x2)]) ++ List.replicate (3 - (lg_sl ([.ref (ad 12 0), .int (iv x1), .int (iv x2)])).length) Slot.unset).toArray = ls at hl ⊢
  have hl : lv_has ls 3 [(0, .ref (ad 12 0)), (1, .int (iv x1)), (2, .int (iv x2))] := hl
  have h : Hs D ct ad L φ N0 s.heap σ s.heap [] := h
  unfold wp_X12_becomes at hw
  refine lv_aload_n X.1 X.2.1 dX12_becomes_0 rfl (lv_at hl 0 rfl) ?_
  refine r_getR (ci := 12) X inw_12 h (hF.1 12 rfl).1 rfl rfl 25 (by decide) kw_1663 rfl ((hF.1 12 rfl).2 25) dX12_becomes_1 ?_
  refine lv_iload_n X.1 X.2.1 dX12_becomes_4 rfl (lv_at hl 1 rfl) ?_
  refine lv_iload_n X.1 X.2.1 dX12_becomes_5 rfl (lv_at hl 2 rfl) ?_
  obtain ⟨g_1, g_2, hw⟩ := hw
  refine r_iast (n := 300) X h (hF.1 102 rfl).1 (fun _ => rfl) (by decide) g_1 g_2 rfl dX12_becomes_6 (fun H locs h => ?_)
  obtain ⟨σ_3, eσ_3⟩ : ∃ z : St, z = st σ 102 0 (Int.toNat x1) x2 := ⟨_, rfl⟩
  rw [← eσ_3] at h
  have hw := hw σ_3 eσ_3
  refine lv_aload_n X.1 X.2.1 dX12_becomes_7 rfl (lv_at hl 0 rfl) ?_
  refine r_getR (ci := 12) X inw_12 h (hF.1 12 rfl).1 rfl rfl 27 (by decide) kw_1665 rfl ((hF.1 12 rfl).2 27) dX12_becomes_8 ?_
  refine j_iconst X dX12_becomes_11 ?_
  refine lv_iload_n X.1 X.2.1 dX12_becomes_12 rfl (lv_at hl 1 rfl) ?_
  refine j_imul X dX12_becomes_13 ?_
  refine lv_iload_n X.1 X.2.1 dX12_becomes_14 rfl (lv_at hl 2 rfl) ?_
  refine j_iadd X dX12_becomes_15 ?_
  refine lv_aload_n X.1 X.2.1 dX12_becomes_16 rfl (lv_at hl 0 rfl) ?_
  refine r_get (ci := 12) X inw_12 h (hF.1 12 rfl).1 rfl rfl 1 (by decide) kw_1639 rfl dX12_becomes_17 ?_
  obtain ⟨g_4, g_5, hw⟩ := hw
  refine r_iast (n := 1500) X h (hF.1 104 rfl).1 (fun _ => rfl) (by decide) g_4 g_5 rfl dX12_becomes_20 (fun H locs h => ?_)
  obtain ⟨σ_6, eσ_6⟩ : ∃ z : St, z = st σ_3 104 0 (Int.toNat ((5 * x1) + x2)) (σ_3 12 0 1) := ⟨_, rfl⟩
  rw [← eσ_6] at h
  have hw := hw σ_6 eσ_6
  refine lv_aload_n X.1 X.2.1 dX12_becomes_21 rfl (lv_at hl 0 rfl) ?_
  refine r_getR (ci := 12) X inw_12 h (hF.1 12 rfl).1 rfl rfl 28 (by decide) kw_1666 rfl ((hF.1 12 rfl).2 28) dX12_becomes_22 ?_
  refine j_iconst X dX12_becomes_25 ?_
  refine lv_iload_n X.1 X.2.1 dX12_becomes_26 rfl (lv_at hl 1 rfl) ?_
  refine j_imul X dX12_becomes_27 ?_
  refine lv_iload_n X.1 X.2.1 dX12_becomes_28 rfl (lv_at hl 2 rfl) ?_
  refine j_iadd X dX12_becomes_29 ?_
  refine lv_aload_n X.1 X.2.1 dX12_becomes_30 rfl (lv_at hl 0 rfl) ?_
  refine r_get (ci := 12) X inw_12 h (hF.1 12 rfl).1 rfl rfl 1 (by decide) kw_1639 rfl dX12_becomes_31 ?_
  refine lv_aload_n X.1 X.2.1 dX12_becomes_34 rfl (lv_at hl 0 rfl) ?_
  refine lv_aload_n X.1 X.2.1 dX12_becomes_35 rfl (lv_at hl 0 rfl) ?_
  refine r_getR (ci := 12) X inw_12 h (hF.1 12 rfl).1 rfl rfl 18 (by decide) kw_1656 rfl ((hF.1 12 rfl).2 18) dX12_becomes_36 ?_
  refine lv_iload_n X.1 X.2.1 dX12_becomes_39 rfl (lv_at hl 1 rfl) ?_
  obtain ⟨g_7, g_8, hw⟩ := hw
  refine r_iald (n := 300) X h (hF.1 95 rfl).1 rfl (by decide) g_7 g_8 dX12_becomes_40 ?_
  refine k_i h (r_V (C := RX12) (ci := 12) (As := [.int (iv (σ_6 95 0 (Int.toNat x1)))]) (rest := [.int (iv (σ_6 12 0 1)), .int (iv ((5 * x1) + x2)), .ref (ad 105 0)]) X h (c_X12_farOf l D ct ad L φ N0 σ_6 (σ_6 95 0 (Int.toNat x1)) _ hw) rfl rfl ⟨Nat.le_of_ble_eq_true rfl, Nat.le_of_ble_eq_true rfl⟩ kw_2154 kw_2156 kw_85 kw_129 kw_2157 ⟨rfl, pd_X12_farOf⟩ (hF.1 12 rfl).1 rfl rfl rfl hl.1 rfl (Nat.le_of_ble_eq_true rfl) ⟨Nat.le_of_ble_eq_true rfl, Nat.le_of_ble_eq_true rfl⟩ dX12_becomes_41) (fun r_10 σ_9 H locs hw h => ?_)
  refine j_iconst X dX12_becomes_44 ?_
  obtain ⟨g_11, hw⟩ := hw
  refine j_idiv X g_11 ⟨by decide, by decide⟩ (by decide) (by decide) dX12_becomes_45 ?_
  refine j_iadd X dX12_becomes_46 ?_
  obtain ⟨g_12, g_13, hw⟩ := hw
  refine r_iast (n := 1500) X h (hF.1 105 rfl).1 (fun _ => rfl) (by decide) g_12 g_13 rfl dX12_becomes_47 (fun H locs h => ?_)
  obtain ⟨σ_14, eσ_14⟩ : ∃ z : St, z = st σ_9 105 0 (Int.toNat ((5 * x1) + x2)) ((σ_6 12 0 1) + (Int.tdiv r_10 4)) := ⟨_, rfl⟩
  rw [← eσ_14] at h
  have hw := hw σ_14 eσ_14
  exact k_vr X h hw dX12_becomes_48
end
section
variable {p : Program} {l : Launch} {e : Env} {s : State} {m : MethodId} {args : Array Value} {below : List Frame} {meth : Method} {c : Code} {D : va_G} {ct : Nat → ClassId} {ad : Nat → Nat → Nat} {L : List (Nat × Nat)} {φ : Nat → Nat → Nat → Bool} {N0 : Nat}
variable {Q : Int → St → Prop}
theorem pd_X12_volume : yX12_volume.cls ≠ "java/lang/invoke/MethodHandle" ∧ yX12_volume.cls ≠ "java/lang/invoke/VarHandle" ∧ (parseMethodDescriptor yX12_volume.desc).map (fun d => d.parameters.length) = some 1 := by decide +kernel
set_option maxRecDepth 100000 in
set_option maxHeartbeats 4000000 in
theorem c_X12_volume (l : Launch) (D : va_G) (ct : Nat → ClassId) (ad : Nat → Nat → Nat) (L : List (Nat × Nat)) (φ : Nat → Nat → Nat → Bool) (N0 : Nat) (σ : St) (x1 : Int) (Q : Int → St → Prop) (hw : wp_X12_volume σ x1 Q) : Met l yX12_volume (.code yX12_volume cX12_volume 2 (some .int) :: gw) ({ frames := 0, cells := 0, slots := 0, locals := 0 } : Room) (Pm D ct ad L φ N0 σ [.ref (ad 12 0), .int (iv x1)]) (Qi D ct ad L φ N0 Q) 0 0 (AA N0) := by
  refine m_of (by decide) (fun p e s m below meth c X hnm h => ?_)
  have hF := X.2.2.2.2.2.2.2.2.1
  have hl := lv_entry ([.ref (ad 12 0), .int (iv x1)]) (n := 2) (Nat.le_of_ble_eq_true rfl)
  rw [lg_entry_eq]
  generalize (lg_sl ([.ref (ad 12 0), .int (iv x1)]) ++ List.replicate (2 - (lg_sl ([.ref (ad 12 0), .int (iv x1)])).length) Slot.unset).toArray = ls at hl ⊢
  have hl : lv_has ls 2 [(0, .ref (ad 12 0)), (1, .int (iv x1))] := hl
  have h : Hs D ct ad L φ N0 s.heap σ s.heap [] := h
  unfold wp_X12_volume at hw
  refine lv_aload_n X.1 X.2.1 dX12_volume_0 rfl (lv_at hl 0 rfl) ?_
  refine r_getR (ci := 12) X inw_12 h (hF.1 12 rfl).1 rfl rfl 20 (by decide) kw_1658 rfl ((hF.1 12 rfl).2 20) dX12_volume_1 ?_
  refine lv_iload_n X.1 X.2.1 dX12_volume_4 rfl (lv_at hl 1 rfl) ?_
  obtain ⟨g_1, g_2, hw⟩ := hw
  refine r_iald (n := 300) X h (hF.1 97 rfl).1 rfl (by decide) g_1 g_2 dX12_volume_5 ?_
  refine lv_aload_n X.1 X.2.1 dX12_volume_6 rfl (lv_at hl 0 rfl) ?_
  refine r_getR (ci := 12) X inw_12 h (hF.1 12 rfl).1 rfl rfl 21 (by decide) kw_1659 rfl ((hF.1 12 rfl).2 21) dX12_volume_7 ?_
  refine lv_iload_n X.1 X.2.1 dX12_volume_10 rfl (lv_at hl 1 rfl) ?_
  obtain ⟨g_3, g_4, hw⟩ := hw
  refine r_iald (n := 300) X h (hF.1 98 rfl).1 rfl (by decide) g_3 g_4 dX12_volume_11 ?_
  refine j_imul X dX12_volume_12 ?_
  refine j_bipush X dX12_volume_13 (by decide) ?_
  obtain ⟨g_5, hw⟩ := hw
  refine j_idiv X g_5 ⟨by decide, by decide⟩ (by decide) (by decide) dX12_volume_15 ?_
  refine j_iconst X dX12_volume_16 ?_
  refine j_iadd X dX12_volume_17 ?_
  exact k_ir X rfl h hw dX12_volume_18
end
section
variable {p : Program} {l : Launch} {e : Env} {s : State} {m : MethodId} {args : Array Value} {below : List Frame} {meth : Method} {c : Code} {D : va_G} {ct : Nat → ClassId} {ad : Nat → Nat → Nat} {L : List (Nat × Nat)} {φ : Nat → Nat → Nat → Bool} {N0 : Nat}
variable {Q : Int → St → Prop}
set_option maxRecDepth 100000 in
set_option maxHeartbeats 4000000 in
theorem lb_X12_sums_35 (X : Cx p s m meth c args cX12_sums 5 (some .int) RX12 D ct L φ N0) {K5 : St → Int → Int → Int → Int → Prop} (hK5 : ∀ (σ : St) (x1 : Int) (x2 : Int) (x3 : Int) (x4 : Int) (H : Heap) (locs : List Loc) (ls : Array Slot), K5 σ x1 x2 x3 x4 → Hs D ct ad L φ N0 s.heap σ H locs → lv_has ls 5 [(0, .ref (ad 12 0)), (1, .int (iv x1)), (2, .int (iv x2)), (3, .int (iv x3)), (4, .int (iv x4))] → W p l e ({ frames := 0, cells := 0, slots := 0, locals := 0 } : Room) s m args below meth c H locs 0 0 (MQ below (Qi D ct ad L φ N0 Q) args s 0 0 (AA N0)) (F0 m 5 ls [])) (σ : St) (x1 : Int) (x2 : Int) (x4 : Int) (y0 : Int) (y1 : Int) (y2 : Int) (H : Heap) (locs : List Loc) (ls : Array Slot) (hw : wp_X12_sums_35 K5 Q σ x1 x2 x4 y0 y1 y2) (h : Hs D ct ad L φ N0 s.heap σ H locs) (hl : lv_has ls 5 [(0, .ref (ad 12 0)), (1, .int (iv x1)), (2, .int (iv x2)), (4, .int (iv x4))]) : W p l e ({ frames := 0, cells := 0, slots := 0, locals := 0 } : Room) s m args below meth c H locs 0 0 (MQ below (Qi D ct ad L φ N0 Q) args s 0 0 (AA N0)) (F0 m 35 ls [.int (iv y0), .int (iv y1), .int (iv y2)]) := by
  have hF := X.2.2.2.2.2.2.2.2.1
  unfold wp_X12_sums_35 at hw
  refine j_imul X dX12_sums_35 ?_
  refine j_iadd X dX12_sums_36 ?_
  refine j_ldc_w (n := 65537) X kw_2048 (by decide) dX12_sums_37 ?_
  obtain ⟨g_1, hw⟩ := hw
  refine j_irem X g_1 ⟨by decide, by decide⟩ (by decide) (by decide) dX12_sums_40 ?_
  refine j_bind (fun v_2 ev_2 => ?_)
  have hw := hw v_2 ev_2
  refine lv_istore_n (lv' := [(3, .int (iv v_2)), (0, .ref (ad 12 0)), (1, .int (iv x1)), (2, .int (iv x2)), (4, .int (iv x4))]) X.1 X.2.1 dX12_sums_41 rfl hl (by decide) rfl (fun ls hl => ?_)
  refine j_iinc (kk9 := 4) (lv' := [(4, .int (iv (x4 + 1))), (3, .int (iv v_2)), (0, .ref (ad 12 0)), (1, .int (iv x1)), (2, .int (iv x2))]) X dX12_sums_42 hl rfl (by decide) rfl (fun ls hl => ?_)
  refine lv_goto (tgt := 5) X.1 X.2.1 dX12_sums_45 (by decide) ?_
  exact hK5 σ x1 x2 v_2 (x4 + 1) _ _ _ hw h (lv_sub hl [2, 3, 4, 1, 0] rfl)
set_option maxRecDepth 100000 in
set_option maxHeartbeats 4000000 in
theorem lb_X12_sums_5 (X : Cx p s m meth c args cX12_sums 5 (some .int) RX12 D ct L φ N0) : ∀ (n : Nat) (σ : St) (x1 : Int) (x2 : Int) (x3 : Int) (x4 : Int) (H : Heap) (locs : List Loc) (ls : Array Slot), wp_X12_sums_5 Q n σ x1 x2 x3 x4 → Hs D ct ad L φ N0 s.heap σ H locs → lv_has ls 5 [(0, .ref (ad 12 0)), (1, .int (iv x1)), (2, .int (iv x2)), (3, .int (iv x3)), (4, .int (iv x4))] → W p l e ({ frames := 0, cells := 0, slots := 0, locals := 0 } : Room) s m args below meth c H locs 0 0 (MQ below (Qi D ct ad L φ N0 Q) args s 0 0 (AA N0)) (F0 m 5 ls []) := by
  have hF := X.2.2.2.2.2.2.2.2.1
  intro n
  induction n with
  | zero => intro σ x1 x2 x3 x4 H locs ls hw; exact hw.elim
  | succ n ih =>
    intro σ x1 x2 x3 x4 H locs ls hw h hl
    unfold wp_X12_sums_5 at hw
    refine lv_iload X.1 X.2.1 dX12_sums_5 (lv_at hl 4 rfl) ?_
    refine j_iconst X dX12_sums_7 ?_
    obtain ⟨g_3, hwt, hwf⟩ := hw
    refine j_cmp_ge (tgt := 48) X g_3 ⟨by decide, by decide⟩ dX12_sums_8 (by decide) (fun c_8 => ?_) (fun c_8 => ?_)
    · have hw := hwt c_8
      refine lv_iload_n X.1 X.2.1 dX12_sums_48 rfl (lv_at hl 3 rfl) ?_
      exact k_ir X rfl h hw dX12_sums_49
    · have hw := hwf c_8
      refine lv_iload_n X.1 X.2.1 dX12_sums_11 rfl (lv_at hl 3 rfl) ?_
      refine lv_aload_n X.1 X.2.1 dX12_sums_12 rfl (lv_at hl 0 rfl) ?_
      refine r_getR (ci := 12) X inw_12 h (hF.1 12 rfl).1 rfl rfl 29 (by decide) kw_1667 rfl ((hF.1 12 rfl).2 29) dX12_sums_13 ?_
      refine j_iconst X dX12_sums_16 ?_
      refine lv_iload_n X.1 X.2.1 dX12_sums_17 rfl (lv_at hl 1 rfl) ?_
      refine j_imul X dX12_sums_18 ?_
      refine lv_iload X.1 X.2.1 dX12_sums_19 (lv_at hl 4 rfl) ?_
      refine j_iadd X dX12_sums_21 ?_
      obtain ⟨g_4, g_5, hw⟩ := hw
      refine r_iald (n := 1500) X h (hF.1 106 rfl).1 rfl (by decide) g_4 g_5 dX12_sums_22 ?_
      refine lv_iload_n X.1 X.2.1 dX12_sums_23 rfl (lv_at hl 2 rfl) ?_
      obtain ⟨g_6, hwt, hwf⟩ := hw
      refine j_if_ne (tgt := 31) X g_6 dX12_sums_24 (by decide) (fun c_7 => ?_) (fun c_7 => ?_)
      · have hw := hwt c_7
        refine lv_iload X.1 X.2.1 dX12_sums_31 (lv_at hl 4 rfl) ?_
        refine j_iconst X dX12_sums_33 ?_
        refine j_iadd X dX12_sums_34 ?_
        exact lb_X12_sums_35 X ih σ x1 x2 x4 (x4 + 1) (σ 106 0 (Int.toNat ((5 * x1) + x4))) x3 _ _ _ hw h (lv_sub hl [0, 1, 2, 4] rfl)
      · have hw := hwf c_7
        refine j_iconst X dX12_sums_27 ?_
        refine lv_goto (tgt := 35) X.1 X.2.1 dX12_sums_28 (by decide) ?_
        exact lb_X12_sums_35 X ih σ x1 x2 x4 1 (σ 106 0 (Int.toNat ((5 * x1) + x4))) x3 _ _ _ hw h (lv_sub hl [0, 1, 2, 4] rfl)
theorem pd_X12_sums : yX12_sums.cls ≠ "java/lang/invoke/MethodHandle" ∧ yX12_sums.cls ≠ "java/lang/invoke/VarHandle" ∧ (parseMethodDescriptor yX12_sums.desc).map (fun d => d.parameters.length) = some 2 := by decide +kernel
set_option maxRecDepth 100000 in
set_option maxHeartbeats 4000000 in
theorem c_X12_sums (l : Launch) (D : va_G) (ct : Nat → ClassId) (ad : Nat → Nat → Nat) (L : List (Nat × Nat)) (φ : Nat → Nat → Nat → Bool) (N0 : Nat) (σ : St) (x1 : Int) (x2 : Int) (Q : Int → St → Prop) (hw : wp_X12_sums σ x1 x2 Q) : Met l yX12_sums (.code yX12_sums cX12_sums 5 (some .int) :: gw) ({ frames := 0, cells := 0, slots := 0, locals := 0 } : Room) (Pm D ct ad L φ N0 σ [.ref (ad 12 0), .int (iv x1), .int (iv x2)]) (Qi D ct ad L φ N0 Q) 0 0 (AA N0) := by
  refine m_of (by decide) (fun p e s m below meth c X hnm h => ?_)
  have hF := X.2.2.2.2.2.2.2.2.1
  have hl := lv_entry ([.ref (ad 12 0), .int (iv x1), .int (iv x2)]) (n := 5) (Nat.le_of_ble_eq_true rfl)
  rw [lg_entry_eq]
  generalize (lg_sl ([.ref (ad 12 0), .int (iv x1), .int (iv x2)]) ++ List.replicate (5 - (lg_sl ([.ref (ad 12 0), .int (iv x1), .int (iv x2)])).length) Slot.unset).toArray = ls at hl ⊢
  have hl : lv_has ls 5 [(0, .ref (ad 12 0)), (1, .int (iv x1)), (2, .int (iv x2))] := hl
  have h : Hs D ct ad L φ N0 s.heap σ s.heap [] := h
  unfold wp_X12_sums at hw
  refine j_iconst X dX12_sums_0 ?_
  refine lv_istore_n (lv' := [(3, .int (iv 0)), (0, .ref (ad 12 0)), (1, .int (iv x1)), (2, .int (iv x2))]) X.1 X.2.1 dX12_sums_1 rfl hl (by decide) rfl (fun ls hl => ?_)
  refine j_iconst X dX12_sums_2 ?_
  refine lv_istore (lv' := [(4, .int (iv 0)), (3, .int (iv 0)), (0, .ref (ad 12 0)), (1, .int (iv x1)), (2, .int (iv x2))]) X.1 X.2.1 dX12_sums_3 hl (by decide) rfl (fun ls hl => ?_)
  exact hw.elim (fun n5 hw => lb_X12_sums_5 X n5 σ x1 x2 0 0 _ _ _ hw h (lv_sub hl [2, 3, 4, 1, 0] rfl))
end
section
variable {p : Program} {l : Launch} {e : Env} {s : State} {m : MethodId} {args : Array Value} {below : List Frame} {meth : Method} {c : Code} {D : va_G} {ct : Nat → ClassId} {ad : Nat → Nat → Nat} {L : List (Nat × Nat)} {φ : Nat → Nat → Nat → Bool} {N0 : Nat}
variable {Q : St → Prop}
set_option maxRecDepth 100000 in
set_option maxHeartbeats 4000000 in
theorem lb_X12_falls_142 (X : Cx p s m meth c args cX12_falls 9 none RX12 D ct L φ N0) (σ : St) (x1 : Int) (x2 : Int) (x3 : Int) (x4 : Int) (x6 : Int) (H : Heap) (locs : List Loc) (ls : Array Slot) (hw : wp_X12_falls_142 Q σ x1 x2 x3 x4 x6) (h : Hs D ct ad L φ N0 s.heap σ H locs) (hl : lv_has ls 9 [(0, .ref (ad 12 0)), (1, .int (iv x1)), (2, .int (iv x2)), (3, .int (iv x3)), (4, .int (iv x4)), (6, .int (iv x6))]) : W p l e ({ frames := 3, cells := 0, slots := 0, locals := 64 } : Room) s m args below meth c H locs 0 0 (MQ below (Qv D ct ad L φ N0 Q) args s 0 0 (AA N0)) (F0 m 142 ls []) := by
  have hF := X.2.2.2.2.2.2.2.2.1
  unfold wp_X12_falls_142 at hw
  refine lv_aload_n X.1 X.2.1 dX12_falls_142 rfl (lv_at hl 0 rfl) ?_
  refine lv_iload X.1 X.2.1 dX12_falls_143 (lv_at hl 5 rfl) ?_
  refine j_iconst X dX12_falls_145 ?_
  refine k_v h (r_V (C := RX12) (ci := 12) (As := [.int (iv x6), .int (iv 0)]) (rest := []) X h (c_X12_becomes l D ct ad L φ N0 σ x6 0 _ hw) rfl rfl ⟨Nat.le_of_ble_eq_true rfl, Nat.le_of_ble_eq_true rfl⟩ kw_2242 kw_2244 kw_96 kw_129 kw_2245 ⟨rfl, pd_X12_becomes⟩ (hF.1 12 rfl).1 rfl rfl rfl hl.1 rfl (Nat.le_of_ble_eq_true rfl) ⟨Nat.le_of_ble_eq_true rfl, Nat.le_of_ble_eq_true rfl⟩ dX12_falls_146) (fun σ_1 H locs hw h => ?_)
  refine lv_aload_n X.1 X.2.1 dX12_falls_149 rfl (lv_at hl 0 rfl) ?_
  refine r_getR (ci := 12) X inw_12 h (hF.1 12 rfl).1 rfl rfl 29 (by decide) kw_1667 rfl ((hF.1 12 rfl).2 29) dX12_falls_150 ?_
  refine j_iconst X dX12_falls_153 ?_
  refine lv_iload X.1 X.2.1 dX12_falls_154 (lv_at hl 5 rfl) ?_
  refine j_imul X dX12_falls_156 ?_
  refine lv_iload_n X.1 X.2.1 dX12_falls_157 rfl (lv_at hl 1 rfl) ?_
  obtain ⟨g_2, g_3, hw⟩ := hw
  refine r_iast (n := 1500) X h (hF.1 106 rfl).1 (fun _ => rfl) (by decide) g_2 g_3 rfl dX12_falls_158 (fun H locs h => ?_)
  obtain ⟨σ_4, eσ_4⟩ : ∃ z : St, z = st σ_1 106 0 (Int.toNat (5 * x6)) x1 := ⟨_, rfl⟩
  rw [← eσ_4] at h
  have hw := hw σ_4 eσ_4
  refine lv_aload_n X.1 X.2.1 dX12_falls_159 rfl (lv_at hl 0 rfl) ?_
  refine r_getR (ci := 12) X inw_12 h (hF.1 12 rfl).1 rfl rfl 29 (by decide) kw_1667 rfl ((hF.1 12 rfl).2 29) dX12_falls_160 ?_
  refine j_iconst X dX12_falls_163 ?_
  refine lv_iload X.1 X.2.1 dX12_falls_164 (lv_at hl 5 rfl) ?_
  refine j_imul X dX12_falls_166 ?_
  refine j_iconst X dX12_falls_167 ?_
  refine j_iadd X dX12_falls_168 ?_
  refine lv_iload_n X.1 X.2.1 dX12_falls_169 rfl (lv_at hl 2 rfl) ?_
  obtain ⟨g_5, g_6, hw⟩ := hw
  refine r_iast (n := 1500) X h (hF.1 106 rfl).1 (fun _ => rfl) (by decide) g_5 g_6 rfl dX12_falls_170 (fun H locs h => ?_)
  obtain ⟨σ_7, eσ_7⟩ : ∃ z : St, z = st σ_4 106 0 (Int.toNat ((5 * x6) + 1)) x2 := ⟨_, rfl⟩
  rw [← eσ_7] at h
  have hw := hw σ_7 eσ_7
  refine lv_aload_n X.1 X.2.1 dX12_falls_171 rfl (lv_at hl 0 rfl) ?_
  refine r_getR (ci := 12) X inw_12 h (hF.1 12 rfl).1 rfl rfl 29 (by decide) kw_1667 rfl ((hF.1 12 rfl).2 29) dX12_falls_172 ?_
  refine j_iconst X dX12_falls_175 ?_
  refine lv_iload X.1 X.2.1 dX12_falls_176 (lv_at hl 5 rfl) ?_
  refine j_imul X dX12_falls_178 ?_
  refine j_iconst X dX12_falls_179 ?_
  refine j_iadd X dX12_falls_180 ?_
  refine lv_iload_n X.1 X.2.1 dX12_falls_181 rfl (lv_at hl 3 rfl) ?_
  obtain ⟨g_8, g_9, hw⟩ := hw
  refine r_iast (n := 1500) X h (hF.1 106 rfl).1 (fun _ => rfl) (by decide) g_8 g_9 rfl dX12_falls_182 (fun H locs h => ?_)
  obtain ⟨σ_10, eσ_10⟩ : ∃ z : St, z = st σ_7 106 0 (Int.toNat ((5 * x6) + 2)) x3 := ⟨_, rfl⟩
  rw [← eσ_10] at h
  have hw := hw σ_10 eσ_10
  refine lv_aload_n X.1 X.2.1 dX12_falls_183 rfl (lv_at hl 0 rfl) ?_
  refine r_getR (ci := 12) X inw_12 h (hF.1 12 rfl).1 rfl rfl 29 (by decide) kw_1667 rfl ((hF.1 12 rfl).2 29) dX12_falls_184 ?_
  refine j_iconst X dX12_falls_187 ?_
  refine lv_iload X.1 X.2.1 dX12_falls_188 (lv_at hl 5 rfl) ?_
  refine j_imul X dX12_falls_190 ?_
  refine j_iconst X dX12_falls_191 ?_
  refine j_iadd X dX12_falls_192 ?_
  refine lv_iload X.1 X.2.1 dX12_falls_193 (lv_at hl 4 rfl) ?_
  obtain ⟨g_11, g_12, hw⟩ := hw
  refine r_iast (n := 1500) X h (hF.1 106 rfl).1 (fun _ => rfl) (by decide) g_11 g_12 rfl dX12_falls_195 (fun H locs h => ?_)
  obtain ⟨σ_13, eσ_13⟩ : ∃ z : St, z = st σ_10 106 0 (Int.toNat ((5 * x6) + 3)) x4 := ⟨_, rfl⟩
  rw [← eσ_13] at h
  have hw := hw σ_13 eσ_13
  refine lv_aload_n X.1 X.2.1 dX12_falls_196 rfl (lv_at hl 0 rfl) ?_
  refine r_getR (ci := 12) X inw_12 h (hF.1 12 rfl).1 rfl rfl 29 (by decide) kw_1667 rfl ((hF.1 12 rfl).2 29) dX12_falls_197 ?_
  refine j_iconst X dX12_falls_200 ?_
  refine lv_iload X.1 X.2.1 dX12_falls_201 (lv_at hl 5 rfl) ?_
  refine j_imul X dX12_falls_203 ?_
  refine j_iconst X dX12_falls_204 ?_
  refine j_iadd X dX12_falls_205 ?_
  refine lv_aload_n X.1 X.2.1 dX12_falls_206 rfl (lv_at hl 0 rfl) ?_
  refine r_get (ci := 12) X inw_12 h (hF.1 12 rfl).1 rfl rfl 1 (by decide) kw_1639 rfl dX12_falls_207 ?_
  obtain ⟨g_14, g_15, hw⟩ := hw
  refine r_iast (n := 1500) X h (hF.1 106 rfl).1 (fun _ => rfl) (by decide) g_14 g_15 rfl dX12_falls_210 (fun H locs h => ?_)
  obtain ⟨σ_16, eσ_16⟩ : ∃ z : St, z = st σ_13 106 0 (Int.toNat ((5 * x6) + 4)) (σ_13 12 0 1) := ⟨_, rfl⟩
  rw [← eσ_16] at h
  have hw := hw σ_16 eσ_16
  refine lv_aload_n X.1 X.2.1 dX12_falls_211 rfl (lv_at hl 0 rfl) ?_
  refine r_getR (ci := 12) X inw_12 h (hF.1 12 rfl).1 rfl rfl 30 (by decide) kw_1668 rfl ((hF.1 12 rfl).2 30) dX12_falls_212 ?_
  refine lv_iload X.1 X.2.1 dX12_falls_215 (lv_at hl 5 rfl) ?_
  refine lv_aload_n X.1 X.2.1 dX12_falls_217 rfl (lv_at hl 0 rfl) ?_
  refine lv_iload X.1 X.2.1 dX12_falls_218 (lv_at hl 5 rfl) ?_
  refine j_iconst X dX12_falls_220 ?_
  refine k_i h (r_V (C := RX12) (ci := 12) (As := [.int (iv x6), .int (iv 0)]) (rest := [.int (iv x6), .ref (ad 107 0)]) X h (c_X12_sums l D ct ad L φ N0 σ_16 x6 0 _ hw) rfl rfl ⟨Nat.le_of_ble_eq_true rfl, Nat.le_of_ble_eq_true rfl⟩ kw_2044 kw_2046 kw_71 kw_129 kw_2047 ⟨rfl, pd_X12_sums⟩ (hF.1 12 rfl).1 rfl rfl rfl hl.1 rfl (Nat.le_of_ble_eq_true rfl) ⟨Nat.le_of_ble_eq_true rfl, Nat.le_of_ble_eq_true rfl⟩ dX12_falls_221) (fun r_18 σ_17 H locs hw h => ?_)
  obtain ⟨g_19, g_20, hw⟩ := hw
  refine r_iast (n := 300) X h (hF.1 107 rfl).1 (fun _ => rfl) (by decide) g_19 g_20 rfl dX12_falls_224 (fun H locs h => ?_)
  obtain ⟨σ_21, eσ_21⟩ : ∃ z : St, z = st σ_17 107 0 (Int.toNat x6) r_18 := ⟨_, rfl⟩
  rw [← eσ_21] at h
  have hw := hw σ_21 eσ_21
  refine lv_aload_n X.1 X.2.1 dX12_falls_225 rfl (lv_at hl 0 rfl) ?_
  refine r_getR (ci := 12) X inw_12 h (hF.1 12 rfl).1 rfl rfl 31 (by decide) kw_1669 rfl ((hF.1 12 rfl).2 31) dX12_falls_226 ?_
  refine lv_iload X.1 X.2.1 dX12_falls_229 (lv_at hl 5 rfl) ?_
  refine lv_aload_n X.1 X.2.1 dX12_falls_231 rfl (lv_at hl 0 rfl) ?_
  refine lv_iload X.1 X.2.1 dX12_falls_232 (lv_at hl 5 rfl) ?_
  refine j_iconst X dX12_falls_234 ?_
  refine k_i h (r_V (C := RX12) (ci := 12) (As := [.int (iv x6), .int (iv 1)]) (rest := [.int (iv x6), .ref (ad 108 0)]) X h (c_X12_sums l D ct ad L φ N0 σ_21 x6 1 _ hw) rfl rfl ⟨Nat.le_of_ble_eq_true rfl, Nat.le_of_ble_eq_true rfl⟩ kw_2044 kw_2046 kw_71 kw_129 kw_2047 ⟨rfl, pd_X12_sums⟩ (hF.1 12 rfl).1 rfl rfl rfl hl.1 rfl (Nat.le_of_ble_eq_true rfl) ⟨Nat.le_of_ble_eq_true rfl, Nat.le_of_ble_eq_true rfl⟩ dX12_falls_235) (fun r_23 σ_22 H locs hw h => ?_)
  obtain ⟨g_24, g_25, hw⟩ := hw
  refine r_iast (n := 300) X h (hF.1 108 rfl).1 (fun _ => rfl) (by decide) g_24 g_25 rfl dX12_falls_238 (fun H locs h => ?_)
  obtain ⟨σ_26, eσ_26⟩ : ∃ z : St, z = st σ_22 108 0 (Int.toNat x6) r_23 := ⟨_, rfl⟩
  rw [← eσ_26] at h
  have hw := hw σ_26 eσ_26
  exact k_vr X h hw dX12_falls_239
set_option maxRecDepth 100000 in
set_option maxHeartbeats 4000000 in
theorem lb_X12_falls_117 (X : Cx p s m meth c args cX12_falls 9 none RX12 D ct L φ N0) {K142 : St → Int → Int → Int → Int → Int → Prop} (hK142 : ∀ (σ : St) (x1 : Int) (x2 : Int) (x3 : Int) (x4 : Int) (x6 : Int) (H : Heap) (locs : List Loc) (ls : Array Slot), K142 σ x1 x2 x3 x4 x6 → Hs D ct ad L φ N0 s.heap σ H locs → lv_has ls 9 [(0, .ref (ad 12 0)), (1, .int (iv x1)), (2, .int (iv x2)), (3, .int (iv x3)), (4, .int (iv x4)), (6, .int (iv x6))] → W p l e ({ frames := 3, cells := 0, slots := 0, locals := 64 } : Room) s m args below meth c H locs 0 0 (MQ below (Qv D ct ad L φ N0 Q) args s 0 0 (AA N0)) (F0 m 142 ls [])) : ∀ (n : Nat) (σ : St) (x1 : Int) (x2 : Int) (x3 : Int) (x4 : Int) (x6 : Int) (x8 : Int) (H : Heap) (locs : List Loc) (ls : Array Slot), wp_X12_falls_117 K142 Q n σ x1 x2 x3 x4 x6 x8 → Hs D ct ad L φ N0 s.heap σ H locs → lv_has ls 9 [(0, .ref (ad 12 0)), (1, .int (iv x1)), (2, .int (iv x2)), (3, .int (iv x3)), (4, .int (iv x4)), (6, .int (iv x6)), (8, .int (iv x8))] → W p l e ({ frames := 3, cells := 0, slots := 0, locals := 64 } : Room) s m args below meth c H locs 0 0 (MQ below (Qv D ct ad L φ N0 Q) args s 0 0 (AA N0)) (F0 m 117 ls []) := by
  have hF := X.2.2.2.2.2.2.2.2.1
  intro n
  induction n with
  | zero => intro σ x1 x2 x3 x4 x6 x8 H locs ls hw; exact hw.elim
  | succ n ih =>
    intro σ x1 x2 x3 x4 x6 x8 H locs ls hw h hl
    unfold wp_X12_falls_117 at hw
    refine lv_iload X.1 X.2.1 dX12_falls_117 (lv_at hl 6 rfl) ?_
    refine j_iconst X dX12_falls_119 ?_
    obtain ⟨g_27, hwt, hwf⟩ := hw
    refine j_cmp_ge (tgt := 142) X g_27 ⟨by decide, by decide⟩ dX12_falls_120 (by decide) (fun c_31 => ?_) (fun c_31 => ?_)
    · have hw := hwt c_31
      exact hK142 σ x1 x2 x3 x4 x6 _ _ _ hw h (lv_sub hl [0, 1, 2, 3, 4, 5] rfl)
    · have hw := hwf c_31
      refine lv_aload_n X.1 X.2.1 dX12_falls_123 rfl (lv_at hl 0 rfl) ?_
      refine r_getR (ci := 12) X inw_12 h (hF.1 12 rfl).1 rfl rfl 27 (by decide) kw_1665 rfl ((hF.1 12 rfl).2 27) dX12_falls_124 ?_
      refine j_iconst X dX12_falls_127 ?_
      refine lv_iload X.1 X.2.1 dX12_falls_128 (lv_at hl 5 rfl) ?_
      refine j_imul X dX12_falls_130 ?_
      refine lv_iload X.1 X.2.1 dX12_falls_131 (lv_at hl 6 rfl) ?_
      refine j_iadd X dX12_falls_133 ?_
      refine j_iconst X dX12_falls_134 ?_
      obtain ⟨g_28, g_29, hw⟩ := hw
      refine r_iast (n := 1500) X h (hF.1 104 rfl).1 (fun _ => rfl) (by decide) g_28 g_29 rfl dX12_falls_135 (fun H locs h => ?_)
      obtain ⟨σ_30, eσ_30⟩ : ∃ z : St, z = st σ 104 0 (Int.toNat ((5 * x6) + x8)) (-1) := ⟨_, rfl⟩
      rw [← eσ_30] at h
      have hw := hw σ_30 eσ_30
      refine j_iinc (kk9 := 6) (lv' := [(8, .int (iv (x8 + 1))), (0, .ref (ad 12 0)), (1, .int (iv x1)), (2, .int (iv x2)), (3, .int (iv x3)), (4, .int (iv x4)), (6, .int (iv x6))]) X dX12_falls_136 hl rfl (by decide) rfl (fun ls hl => ?_)
      refine lv_goto (tgt := 117) X.1 X.2.1 dX12_falls_139 (by decide) ?_
      exact ih σ_30 x1 x2 x3 x4 x6 (x8 + 1) _ _ _ hw h (lv_sub hl [1, 2, 3, 4, 5, 6, 0] rfl)
set_option maxRecDepth 100000 in
set_option maxHeartbeats 4000000 in
theorem lb_X12_falls_102 (X : Cx p s m meth c args cX12_falls 9 none RX12 D ct L φ N0) (σ : St) (x1 : Int) (x2 : Int) (x3 : Int) (x4 : Int) (x6 : Int) (y0 : Int) (y1 : Int) (H : Heap) (locs : List Loc) (ls : Array Slot) (hw : wp_X12_falls_102 Q σ x1 x2 x3 x4 x6 y0 y1) (h : Hs D ct ad L φ N0 s.heap σ H locs) (hl : lv_has ls 9 [(0, .ref (ad 12 0)), (1, .int (iv x1)), (2, .int (iv x2)), (3, .int (iv x3)), (4, .int (iv x4)), (6, .int (iv x6))]) : W p l e ({ frames := 3, cells := 0, slots := 0, locals := 64 } : Room) s m args below meth c H locs 0 0 (MQ below (Qv D ct ad L φ N0 Q) args s 0 0 (AA N0)) (F0 m 102 ls [.int (iv y0), .int (iv y1), .ref (ad 101 0)]) := by
  have hF := X.2.2.2.2.2.2.2.2.1
  unfold wp_X12_falls_102 at hw
  obtain ⟨g_32, g_33, hw⟩ := hw
  refine r_iast (n := 300) X h (hF.1 101 rfl).1 (fun _ => rfl) (by decide) g_32 g_33 rfl dX12_falls_102 (fun H locs h => ?_)
  obtain ⟨σ_34, eσ_34⟩ : ∃ z : St, z = st σ 101 0 (Int.toNat y1) y0 := ⟨_, rfl⟩
  rw [← eσ_34] at h
  have hw := hw σ_34 eσ_34
  refine lv_aload_n X.1 X.2.1 dX12_falls_103 rfl (lv_at hl 0 rfl) ?_
  refine r_getR (ci := 12) X inw_12 h (hF.1 12 rfl).1 rfl rfl 26 (by decide) kw_1664 rfl ((hF.1 12 rfl).2 26) dX12_falls_104 ?_
  refine lv_iload X.1 X.2.1 dX12_falls_107 (lv_at hl 5 rfl) ?_
  refine lv_aload_n X.1 X.2.1 dX12_falls_109 rfl (lv_at hl 0 rfl) ?_
  refine r_get (ci := 12) X inw_12 h (hF.1 12 rfl).1 rfl rfl 1 (by decide) kw_1639 rfl dX12_falls_110 ?_
  obtain ⟨g_35, g_36, hw⟩ := hw
  refine r_iast (n := 300) X h (hF.1 103 rfl).1 (fun _ => rfl) (by decide) g_35 g_36 rfl dX12_falls_113 (fun H locs h => ?_)
  obtain ⟨σ_37, eσ_37⟩ : ∃ z : St, z = st σ_34 103 0 (Int.toNat x6) (σ_34 12 0 1) := ⟨_, rfl⟩
  rw [← eσ_37] at h
  have hw := hw σ_37 eσ_37
  refine j_iconst X dX12_falls_114 ?_
  refine lv_istore (lv' := [(8, .int (iv 0)), (0, .ref (ad 12 0)), (1, .int (iv x1)), (2, .int (iv x2)), (3, .int (iv x3)), (4, .int (iv x4)), (6, .int (iv x6))]) X.1 X.2.1 dX12_falls_115 hl (by decide) rfl (fun ls hl => ?_)
  exact hw.elim (fun n117 hw => lb_X12_falls_117 X (lb_X12_falls_142 X) n117 σ_37 x1 x2 x3 x4 x6 0 _ _ _ hw h (lv_sub hl [1, 2, 3, 4, 5, 6, 0] rfl))
theorem pd_X12_falls : yX12_falls.cls ≠ "java/lang/invoke/MethodHandle" ∧ yX12_falls.cls ≠ "java/lang/invoke/VarHandle" ∧ (parseMethodDescriptor yX12_falls.desc).map (fun d => d.parameters.length) = some 5 := by decide +kernel
set_option maxRecDepth 100000 in
set_option maxHeartbeats 4000000 in
theorem c_X12_falls (l : Launch) (D : va_G) (ct : Nat → ClassId) (ad : Nat → Nat → Nat) (L : List (Nat × Nat)) (φ : Nat → Nat → Nat → Bool) (N0 : Nat) (σ : St) (x1 : Int) (x2 : Int) (x3 : Int) (x4 : Int) (x5 : Int) (Q : St → Prop) (hw : wp_X12_falls σ x1 x2 x3 x4 x5 Q) : Met l yX12_falls (.code yX12_falls cX12_falls 9 none :: gw) ({ frames := 3, cells := 0, slots := 0, locals := 64 } : Room) (Pm D ct ad L φ N0 σ [.ref (ad 12 0), .int (iv x1), .int (iv x2), .int (iv x3), .int (iv x4), .int (iv x5)]) (Qv D ct ad L φ N0 Q) 0 0 (AA N0) := by
  refine m_of (by decide) (fun p e s m below meth c X hnm h => ?_)
  have hF := X.2.2.2.2.2.2.2.2.1
  have hl := lv_entry ([.ref (ad 12 0), .int (iv x1), .int (iv x2), .int (iv x3), .int (iv x4), .int (iv x5)]) (n := 9) (Nat.le_of_ble_eq_true rfl)
  rw [lg_entry_eq]
  generalize (lg_sl ([.ref (ad 12 0), .int (iv x1), .int (iv x2), .int (iv x3), .int (iv x4), .int (iv x5)]) ++ List.replicate (9 - (lg_sl ([.ref (ad 12 0), .int (iv x1), .int (iv x2), .int (iv x3), .int (iv x4), .int (iv x5)])).length) Slot.unset).toArray = ls at hl ⊢
  have hl : lv_has ls 9 [(0, .ref (ad 12 0)), (1, .int (iv x1)), (2, .int (iv x2)), (3, .int (iv x3)), (4, .int (iv x4)), (5, .int (iv x5))] := hl
  have h : Hs D ct ad L φ N0 s.heap σ s.heap [] := h
  unfold wp_X12_falls at hw
  refine lv_aload_n X.1 X.2.1 dX12_falls_0 rfl (lv_at hl 0 rfl) ?_
  refine r_get (ci := 12) X inw_12 h (hF.1 12 rfl).1 rfl rfl 17 (by decide) kw_1655 rfl dX12_falls_1 ?_
  refine j_bind (fun v_38 ev_38 => ?_)
  have hw := hw v_38 ev_38
  refine lv_istore (lv' := [(6, .int (iv v_38)), (0, .ref (ad 12 0)), (1, .int (iv x1)), (2, .int (iv x2)), (3, .int (iv x3)), (4, .int (iv x4)), (5, .int (iv x5))]) X.1 X.2.1 dX12_falls_4 hl (by decide) rfl (fun ls hl => ?_)
  refine lv_aload_n X.1 X.2.1 dX12_falls_6 rfl (lv_at hl 1 rfl) ?_
  refine lv_dup X.1 X.2.1 dX12_falls_7 rfl ?_
  refine r_get (ci := 12) X inw_12 h (hF.1 12 rfl).1 rfl rfl 17 (by decide) kw_1655 rfl dX12_falls_8 ?_
  refine j_iconst X dX12_falls_11 ?_
  refine j_iadd X dX12_falls_12 ?_
  refine r_put (ci := 12) X inw_12 tyX12 tyX12_ok nmX12 h (hF.1 12 rfl).1 rfl rfl 17 (by decide) kw_1655 rfl rfl rfl (Nat.le_of_ble_eq_true rfl) rfl rfl dX12_falls_13 (fun H locs h => ?_)
  obtain ⟨σ_39, eσ_39⟩ : ∃ z : St, z = st σ 12 0 17 ((σ 12 0 17) + 1) := ⟨_, rfl⟩
  rw [← eσ_39] at h
  have hw := hw σ_39 eσ_39
  refine lv_aload_n X.1 X.2.1 dX12_falls_16 rfl (lv_at hl 1 rfl) ?_
  refine r_getR (ci := 12) X inw_12 h (hF.1 12 rfl).1 rfl rfl 18 (by decide) kw_1656 rfl ((hF.1 12 rfl).2 18) dX12_falls_17 ?_
  refine lv_iload X.1 X.2.1 dX12_falls_20 (lv_at hl 0 rfl) ?_
  refine lv_iload_n X.1 X.2.1 dX12_falls_22 rfl (lv_at hl 2 rfl) ?_
  obtain ⟨g_40, g_41, hw⟩ := hw
  refine r_iast (n := 300) X h (hF.1 95 rfl).1 (fun _ => rfl) (by decide) g_40 g_41 rfl dX12_falls_23 (fun H locs h => ?_)
  obtain ⟨σ_42, eσ_42⟩ : ∃ z : St, z = st σ_39 95 0 (Int.toNat v_38) x1 := ⟨_, rfl⟩
  rw [← eσ_42] at h
  have hw := hw σ_42 eσ_42
  refine lv_aload_n X.1 X.2.1 dX12_falls_24 rfl (lv_at hl 1 rfl) ?_
  refine r_getR (ci := 12) X inw_12 h (hF.1 12 rfl).1 rfl rfl 19 (by decide) kw_1657 rfl ((hF.1 12 rfl).2 19) dX12_falls_25 ?_
  refine lv_iload X.1 X.2.1 dX12_falls_28 (lv_at hl 0 rfl) ?_
  refine lv_iload_n X.1 X.2.1 dX12_falls_30 rfl (lv_at hl 3 rfl) ?_
  obtain ⟨g_43, g_44, hw⟩ := hw
  refine r_iast (n := 300) X h (hF.1 96 rfl).1 (fun _ => rfl) (by decide) g_43 g_44 rfl dX12_falls_31 (fun H locs h => ?_)
  obtain ⟨σ_45, eσ_45⟩ : ∃ z : St, z = st σ_42 96 0 (Int.toNat v_38) x2 := ⟨_, rfl⟩
  rw [← eσ_45] at h
  have hw := hw σ_45 eσ_45
  refine lv_aload_n X.1 X.2.1 dX12_falls_32 rfl (lv_at hl 1 rfl) ?_
  refine r_getR (ci := 12) X inw_12 h (hF.1 12 rfl).1 rfl rfl 20 (by decide) kw_1658 rfl ((hF.1 12 rfl).2 20) dX12_falls_33 ?_
  refine lv_iload X.1 X.2.1 dX12_falls_36 (lv_at hl 0 rfl) ?_
  refine lv_iload_n X.1 X.2.1 dX12_falls_38 rfl (lv_at hl 4 rfl) ?_
  obtain ⟨g_46, g_47, hw⟩ := hw
  refine r_iast (n := 300) X h (hF.1 97 rfl).1 (fun _ => rfl) (by decide) g_46 g_47 rfl dX12_falls_39 (fun H locs h => ?_)
  obtain ⟨σ_48, eσ_48⟩ : ∃ z : St, z = st σ_45 97 0 (Int.toNat v_38) x3 := ⟨_, rfl⟩
  rw [← eσ_48] at h
  have hw := hw σ_48 eσ_48
  refine lv_aload_n X.1 X.2.1 dX12_falls_40 rfl (lv_at hl 1 rfl) ?_
  refine r_getR (ci := 12) X inw_12 h (hF.1 12 rfl).1 rfl rfl 21 (by decide) kw_1659 rfl ((hF.1 12 rfl).2 21) dX12_falls_41 ?_
  refine lv_iload X.1 X.2.1 dX12_falls_44 (lv_at hl 0 rfl) ?_
  refine lv_iload X.1 X.2.1 dX12_falls_46 (lv_at hl 5 rfl) ?_
  obtain ⟨g_49, g_50, hw⟩ := hw
  refine r_iast (n := 300) X h (hF.1 98 rfl).1 (fun _ => rfl) (by decide) g_49 g_50 rfl dX12_falls_48 (fun H locs h => ?_)
  obtain ⟨σ_51, eσ_51⟩ : ∃ z : St, z = st σ_48 98 0 (Int.toNat v_38) x4 := ⟨_, rfl⟩
  rw [← eσ_51] at h
  have hw := hw σ_51 eσ_51
  refine lv_aload_n X.1 X.2.1 dX12_falls_49 rfl (lv_at hl 1 rfl) ?_
  refine r_getR (ci := 12) X inw_12 h (hF.1 12 rfl).1 rfl rfl 22 (by decide) kw_1660 rfl ((hF.1 12 rfl).2 22) dX12_falls_50 ?_
  refine lv_iload X.1 X.2.1 dX12_falls_53 (lv_at hl 0 rfl) ?_
  refine lv_aload_n X.1 X.2.1 dX12_falls_55 rfl (lv_at hl 1 rfl) ?_
  refine r_get (ci := 12) X inw_12 h (hF.1 12 rfl).1 rfl rfl 1 (by decide) kw_1639 rfl dX12_falls_56 ?_
  obtain ⟨g_52, g_53, hw⟩ := hw
  refine r_iast (n := 300) X h (hF.1 99 rfl).1 (fun _ => rfl) (by decide) g_52 g_53 rfl dX12_falls_59 (fun H locs h => ?_)
  obtain ⟨σ_54, eσ_54⟩ : ∃ z : St, z = st σ_51 99 0 (Int.toNat v_38) (σ_51 12 0 1) := ⟨_, rfl⟩
  rw [← eσ_54] at h
  have hw := hw σ_54 eσ_54
  refine lv_aload_n X.1 X.2.1 dX12_falls_60 rfl (lv_at hl 1 rfl) ?_
  refine r_getR (ci := 12) X inw_12 h (hF.1 12 rfl).1 rfl rfl 23 (by decide) kw_1661 rfl ((hF.1 12 rfl).2 23) dX12_falls_61 ?_
  refine lv_iload X.1 X.2.1 dX12_falls_64 (lv_at hl 0 rfl) ?_
  refine lv_iload X.1 X.2.1 dX12_falls_66 (lv_at hl 6 rfl) ?_
  obtain ⟨g_55, g_56, hw⟩ := hw
  refine r_iast (n := 300) X h (hF.1 100 rfl).1 (fun _ => rfl) (by decide) g_55 g_56 rfl dX12_falls_68 (fun H locs h => ?_)
  obtain ⟨σ_57, eσ_57⟩ : ∃ z : St, z = st σ_54 100 0 (Int.toNat v_38) x5 := ⟨_, rfl⟩
  rw [← eσ_57] at h
  have hw := hw σ_57 eσ_57
  refine j_bipush X dX12_falls_69 (by decide) ?_
  refine lv_iload X.1 X.2.1 dX12_falls_71 (lv_at hl 0 rfl) ?_
  refine j_imul X dX12_falls_73 ?_
  refine lv_iload_n X.1 X.2.1 dX12_falls_74 rfl (lv_at hl 2 rfl) ?_
  refine j_iadd X dX12_falls_75 ?_
  refine lv_iload X.1 X.2.1 dX12_falls_76 (lv_at hl 5 rfl) ?_
  refine j_iconst X dX12_falls_78 ?_
  refine j_iadd X dX12_falls_79 ?_
  obtain ⟨g_58, g_59, g_60, g_61, hw⟩ := hw
  refine j_irem X g_58 g_59 g_60 g_61 dX12_falls_80 ?_
  refine j_bind (fun v_62 ev_62 => ?_)
  have hw := hw v_62 ev_62
  refine lv_istore (lv' := [(7, .int (iv v_62)), (6, .int (iv v_38)), (0, .ref (ad 12 0)), (1, .int (iv x1)), (2, .int (iv x2)), (3, .int (iv x3)), (4, .int (iv x4)), (5, .int (iv x5))]) X.1 X.2.1 dX12_falls_81 hl (by decide) rfl (fun ls hl => ?_)
  refine lv_aload_n X.1 X.2.1 dX12_falls_83 rfl (lv_at hl 2 rfl) ?_
  refine r_getR (ci := 12) X inw_12 h (hF.1 12 rfl).1 rfl rfl 24 (by decide) kw_1662 rfl ((hF.1 12 rfl).2 24) dX12_falls_84 ?_
  refine lv_iload X.1 X.2.1 dX12_falls_87 (lv_at hl 1 rfl) ?_
  refine lv_iload X.1 X.2.1 dX12_falls_89 (lv_at hl 0 rfl) ?_
  refine lv_iload X.1 X.2.1 dX12_falls_91 (lv_at hl 6 rfl) ?_
  obtain ⟨g_63, g_64, hwt, hwf⟩ := hw
  refine j_cmp_lt (tgt := 100) X g_63 g_64 dX12_falls_93 (by decide) (fun c_65 => ?_) (fun c_65 => ?_)
  · have hw := hwt c_65
    refine lv_iload X.1 X.2.1 dX12_falls_100 (lv_at hl 0 rfl) ?_
    exact lb_X12_falls_102 X σ_57 x1 x2 x3 x4 v_38 v_62 v_38 _ _ _ hw h (lv_sub hl [2, 3, 4, 5, 6, 1] rfl)
  · have hw := hwf c_65
    refine j_iconst X dX12_falls_96 ?_
    refine lv_goto (tgt := 102) X.1 X.2.1 dX12_falls_97 (by decide) ?_
    exact lb_X12_falls_102 X σ_57 x1 x2 x3 x4 v_38 (-1) v_38 _ _ _ hw h (lv_sub hl [2, 3, 4, 5, 6, 1] rfl)
end
section
variable {p : Program} {l : Launch} {e : Env} {s : State} {m : MethodId} {args : Array Value} {below : List Frame} {meth : Method} {c : Code} {D : va_G} {ct : Nat → ClassId} {ad : Nat → Nat → Nat} {L : List (Nat × Nat)} {φ : Nat → Nat → Nat → Bool} {N0 : Nat}
variable {Q : Int → St → Prop}
set_option maxRecDepth 100000 in
set_option maxHeartbeats 4000000 in
theorem lb_X12_knew_98 (X : Cx p s m meth c args cX12_knew 6 (some .int) RX12 D ct L φ N0) {K43 : St → Int → Int → Int → Int → Int → Prop} (hK43 : ∀ (σ : St) (x1 : Int) (x2 : Int) (x3 : Int) (x4 : Int) (x5 : Int) (H : Heap) (locs : List Loc) (ls : Array Slot), K43 σ x1 x2 x3 x4 x5 → Hs D ct ad L φ N0 s.heap σ H locs → lv_has ls 6 [(0, .ref (ad 12 0)), (1, .int (iv x1)), (2, .int (iv x2)), (3, .int (iv x3)), (4, .int (iv x4)), (5, .int (iv x5))] → W p l e ({ frames := 2, cells := 0, slots := 0, locals := 43 } : Room) s m args below meth c H locs 0 0 (MQ below (Qi D ct ad L φ N0 Q) args s 0 0 (AA N0)) (F0 m 43 ls [])) (σ : St) (x1 : Int) (x2 : Int) (x3 : Int) (x4 : Int) (x5 : Int) (H : Heap) (locs : List Loc) (ls : Array Slot) (hw : wp_X12_knew_98 K43 Q σ x1 x2 x3 x4 x5) (h : Hs D ct ad L φ N0 s.heap σ H locs) (hl : lv_has ls 6 [(0, .ref (ad 12 0)), (1, .int (iv x1)), (2, .int (iv x2)), (3, .int (iv x3)), (4, .int (iv x4)), (5, .int (iv x5))]) : W p l e ({ frames := 2, cells := 0, slots := 0, locals := 43 } : Room) s m args below meth c H locs 0 0 (MQ below (Qi D ct ad L φ N0 Q) args s 0 0 (AA N0)) (F0 m 98 ls []) := by
  have hF := X.2.2.2.2.2.2.2.2.1
  unfold wp_X12_knew_98 at hw
  refine j_iinc (kk9 := 5) (lv' := [(5, .int (iv (x5 + 1))), (0, .ref (ad 12 0)), (1, .int (iv x1)), (2, .int (iv x2)), (3, .int (iv x3)), (4, .int (iv x4))]) X dX12_knew_98 hl rfl (by decide) rfl (fun ls hl => ?_)
  refine lv_goto (tgt := 43) X.1 X.2.1 dX12_knew_101 (by decide) ?_
  exact hK43 σ x1 x2 x3 x4 (x5 + 1) _ _ _ hw h (lv_sub hl [1, 2, 3, 4, 5, 0] rfl)
set_option maxRecDepth 100000 in
set_option maxHeartbeats 4000000 in
theorem lb_X12_knew_43 (X : Cx p s m meth c args cX12_knew 6 (some .int) RX12 D ct L φ N0) : ∀ (n : Nat) (σ : St) (x1 : Int) (x2 : Int) (x3 : Int) (x4 : Int) (x5 : Int) (H : Heap) (locs : List Loc) (ls : Array Slot), wp_X12_knew_43 Q n σ x1 x2 x3 x4 x5 → Hs D ct ad L φ N0 s.heap σ H locs → lv_has ls 6 [(0, .ref (ad 12 0)), (1, .int (iv x1)), (2, .int (iv x2)), (3, .int (iv x3)), (4, .int (iv x4)), (5, .int (iv x5))] → W p l e ({ frames := 2, cells := 0, slots := 0, locals := 43 } : Room) s m args below meth c H locs 0 0 (MQ below (Qi D ct ad L φ N0 Q) args s 0 0 (AA N0)) (F0 m 43 ls []) := by
  have hF := X.2.2.2.2.2.2.2.2.1
  intro n
  induction n with
  | zero => intro σ x1 x2 x3 x4 x5 H locs ls hw; exact hw.elim
  | succ n ih =>
    intro σ x1 x2 x3 x4 x5 H locs ls hw h hl
    unfold wp_X12_knew_43 at hw
    refine lv_iload X.1 X.2.1 dX12_knew_43 (lv_at hl 5 rfl) ?_
    refine j_iconst X dX12_knew_45 ?_
    obtain ⟨g_1, hwt, hwf⟩ := hw
    refine j_cmp_ge (tgt := 104) X g_1 ⟨by decide, by decide⟩ dX12_knew_46 (by decide) (fun c_16 => ?_) (fun c_16 => ?_)
    · have hw := hwt c_16
      refine lv_iload X.1 X.2.1 dX12_knew_104 (lv_at hl 4 rfl) ?_
      exact k_ir X rfl h hw dX12_knew_106
    · have hw := hwf c_16
      refine lv_aload_n X.1 X.2.1 dX12_knew_49 rfl (lv_at hl 0 rfl) ?_
      refine r_getR (ci := 12) X inw_12 h (hF.1 12 rfl).1 rfl rfl 27 (by decide) kw_1665 rfl ((hF.1 12 rfl).2 27) dX12_knew_50 ?_
      refine j_iconst X dX12_knew_53 ?_
      refine lv_iload_n X.1 X.2.1 dX12_knew_54 rfl (lv_at hl 1 rfl) ?_
      refine j_imul X dX12_knew_55 ?_
      refine lv_iload X.1 X.2.1 dX12_knew_56 (lv_at hl 5 rfl) ?_
      refine j_iadd X dX12_knew_58 ?_
      obtain ⟨g_2, g_3, hw⟩ := hw
      refine r_iald (n := 1500) X h (hF.1 104 rfl).1 rfl (by decide) g_2 g_3 dX12_knew_59 ?_
      refine j_iconst X dX12_knew_60 ?_
      obtain ⟨g_4, hwt, hwf⟩ := hw
      refine j_cmp_eq (tgt := 98) X g_4 ⟨by decide, by decide⟩ dX12_knew_61 (by decide) (fun c_15 => ?_) (fun c_15 => ?_)
      · have hw := hwt c_15
        exact lb_X12_knew_98 X ih σ x1 x2 x3 x4 x5 _ _ _ hw h (lv_sub hl [0, 1, 2, 3, 4, 5] rfl)
      · have hw := hwf c_15
        refine lv_aload_n X.1 X.2.1 dX12_knew_64 rfl (lv_at hl 0 rfl) ?_
        refine r_getR (ci := 12) X inw_12 h (hF.1 12 rfl).1 rfl rfl 27 (by decide) kw_1665 rfl ((hF.1 12 rfl).2 27) dX12_knew_65 ?_
        refine j_iconst X dX12_knew_68 ?_
        refine lv_iload_n X.1 X.2.1 dX12_knew_69 rfl (lv_at hl 1 rfl) ?_
        refine j_imul X dX12_knew_70 ?_
        refine lv_iload X.1 X.2.1 dX12_knew_71 (lv_at hl 5 rfl) ?_
        refine j_iadd X dX12_knew_73 ?_
        obtain ⟨g_5, g_6, hw⟩ := hw
        refine r_iald (n := 1500) X h (hF.1 104 rfl).1 rfl (by decide) g_5 g_6 dX12_knew_74 ?_
        refine lv_iload_n X.1 X.2.1 dX12_knew_75 rfl (lv_at hl 2 rfl) ?_
        obtain ⟨g_7, g_8, hwt, hwf⟩ := hw
        refine j_cmp_gt (tgt := 98) X g_7 g_8 dX12_knew_76 (by decide) (fun c_14 => ?_) (fun c_14 => ?_)
        · have hw := hwt c_14
          exact lb_X12_knew_98 X ih σ x1 x2 x3 x4 x5 _ _ _ hw h (lv_sub hl [0, 1, 2, 3, 4, 5] rfl)
        · have hw := hwf c_14
          refine lv_aload_n X.1 X.2.1 dX12_knew_79 rfl (lv_at hl 0 rfl) ?_
          refine r_getR (ci := 12) X inw_12 h (hF.1 12 rfl).1 rfl rfl 28 (by decide) kw_1666 rfl ((hF.1 12 rfl).2 28) dX12_knew_80 ?_
          refine j_iconst X dX12_knew_83 ?_
          refine lv_iload_n X.1 X.2.1 dX12_knew_84 rfl (lv_at hl 1 rfl) ?_
          refine j_imul X dX12_knew_85 ?_
          refine lv_iload X.1 X.2.1 dX12_knew_86 (lv_at hl 5 rfl) ?_
          refine j_iadd X dX12_knew_88 ?_
          obtain ⟨g_9, g_10, hw⟩ := hw
          refine r_iald (n := 1500) X h (hF.1 105 rfl).1 rfl (by decide) g_9 g_10 dX12_knew_89 ?_
          refine lv_iload_n X.1 X.2.1 dX12_knew_90 rfl (lv_at hl 3 rfl) ?_
          obtain ⟨g_11, g_12, hwt, hwf⟩ := hw
          refine j_cmp_gt (tgt := 98) X g_11 g_12 dX12_knew_91 (by decide) (fun c_13 => ?_) (fun c_13 => ?_)
          · have hw := hwt c_13
            exact lb_X12_knew_98 X ih σ x1 x2 x3 x4 x5 _ _ _ hw h (lv_sub hl [0, 1, 2, 3, 4, 5] rfl)
          · have hw := hwf c_13
            refine lv_iload X.1 X.2.1 dX12_knew_94 (lv_at hl 5 rfl) ?_
            refine lv_istore (lv' := [(4, .int (iv x5)), (0, .ref (ad 12 0)), (1, .int (iv x1)), (2, .int (iv x2)), (3, .int (iv x3)), (5, .int (iv x5))]) X.1 X.2.1 dX12_knew_96 hl (by decide) rfl (fun ls hl => ?_)
            exact lb_X12_knew_98 X ih σ x1 x2 x3 x5 x5 _ _ _ hw h (lv_sub hl [1, 2, 3, 4, 0, 5] rfl)
theorem pd_X12_knew : yX12_knew.cls ≠ "java/lang/invoke/MethodHandle" ∧ yX12_knew.cls ≠ "java/lang/invoke/VarHandle" ∧ (parseMethodDescriptor yX12_knew.desc).map (fun d => d.parameters.length) = some 3 := by decide +kernel
set_option maxRecDepth 100000 in
set_option maxHeartbeats 4000000 in
theorem c_X12_knew (l : Launch) (D : va_G) (ct : Nat → ClassId) (ad : Nat → Nat → Nat) (L : List (Nat × Nat)) (φ : Nat → Nat → Nat → Bool) (N0 : Nat) (σ : St) (x1 : Int) (x2 : Int) (x3 : Int) (Q : Int → St → Prop) (hw : wp_X12_knew σ x1 x2 x3 Q) : Met l yX12_knew (.code yX12_knew cX12_knew 6 (some .int) :: gw) ({ frames := 2, cells := 0, slots := 0, locals := 43 } : Room) (Pm D ct ad L φ N0 σ [.ref (ad 12 0), .int (iv x1), .int (iv x2), .int (iv x3)]) (Qi D ct ad L φ N0 Q) 0 0 (AA N0) := by
  refine m_of (by decide) (fun p e s m below meth c X hnm h => ?_)
  have hF := X.2.2.2.2.2.2.2.2.1
  have hl := lv_entry ([.ref (ad 12 0), .int (iv x1), .int (iv x2), .int (iv x3)]) (n := 6) (Nat.le_of_ble_eq_true rfl)
  rw [lg_entry_eq]
  generalize (lg_sl ([.ref (ad 12 0), .int (iv x1), .int (iv x2), .int (iv x3)]) ++ List.replicate (6 - (lg_sl ([.ref (ad 12 0), .int (iv x1), .int (iv x2), .int (iv x3)])).length) Slot.unset).toArray = ls at hl ⊢
  have hl : lv_has ls 6 [(0, .ref (ad 12 0)), (1, .int (iv x1)), (2, .int (iv x2)), (3, .int (iv x3))] := hl
  have h : Hs D ct ad L φ N0 s.heap σ s.heap [] := h
  unfold wp_X12_knew at hw
  refine lv_aload_n X.1 X.2.1 dX12_knew_0 rfl (lv_at hl 0 rfl) ?_
  refine j_iconst X dX12_knew_1 ?_
  refine r_put (ci := 12) X inw_12 tyX12 tyX12_ok nmX12 h (hF.1 12 rfl).1 rfl rfl 0 (by decide) kw_1638 rfl rfl rfl (Nat.le_of_ble_eq_true rfl) rfl rfl dX12_knew_2 (fun H locs h => ?_)
  obtain ⟨σ_17, eσ_17⟩ : ∃ z : St, z = st σ 12 0 0 0 := ⟨_, rfl⟩
  rw [← eσ_17] at h
  have hw := hw σ_17 eσ_17
  refine lv_aload_n X.1 X.2.1 dX12_knew_5 rfl (lv_at hl 0 rfl) ?_
  refine lv_iload_n X.1 X.2.1 dX12_knew_6 rfl (lv_at hl 1 rfl) ?_
  refine k_i h (r_V (C := RX12) (ci := 12) (As := [.int (iv x1)]) (rest := []) X h (c_X12_isLog l D ct ad L φ N0 σ_17 x1 _ hw) rfl rfl ⟨Nat.le_of_ble_eq_true rfl, Nat.le_of_ble_eq_true rfl⟩ kw_2027 kw_2029 kw_69 kw_129 kw_2030 ⟨rfl, pd_X12_isLog⟩ (hF.1 12 rfl).1 rfl rfl rfl hl.1 rfl (Nat.le_of_ble_eq_true rfl) ⟨Nat.le_of_ble_eq_true rfl, Nat.le_of_ble_eq_true rfl⟩ dX12_knew_7) (fun r_19 σ_18 H locs hw h => ?_)
  obtain ⟨g_20, hwt, hwf⟩ := hw
  refine j_if_eq (tgt := 34) X g_20 dX12_knew_10 (by decide) (fun c_29 => ?_) (fun c_29 => ?_)
  · have hw := hwt c_29
    refine j_bipush X dX12_knew_34 (by decide) ?_
    exact k_ir X rfl h hw dX12_knew_36
  · have hw := hwf c_29
    refine lv_iload_n X.1 X.2.1 dX12_knew_13 rfl (lv_at hl 3 rfl) ?_
    refine j_iconst X dX12_knew_14 ?_
    refine lv_aload_n X.1 X.2.1 dX12_knew_15 rfl (lv_at hl 0 rfl) ?_
    refine r_get (ci := 12) X inw_12 h (hF.1 12 rfl).1 rfl rfl 1 (by decide) kw_1639 rfl dX12_knew_16 ?_
    refine k_i h (r_S (As := [.int (iv x3), .int (iv 0), .int (iv (σ_18 12 0 1))]) (rest := []) X h (c_X12_within l D ct ad L φ N0 σ_18 x3 0 (σ_18 12 0 1) _ hw) rfl rfl ⟨Nat.le_of_ble_eq_true rfl, Nat.le_of_ble_eq_true rfl⟩ kw_1959 kw_1960 kw_129 kw_1961 pd_X12_within rfl hl.1 rfl (Nat.le_of_ble_eq_true rfl) ⟨Nat.le_of_ble_eq_true rfl, Nat.le_of_ble_eq_true rfl⟩ dX12_knew_19) (fun r_22 σ_21 H locs hw h => ?_)
    obtain ⟨g_23, hwt, hwf⟩ := hw
    refine j_if_eq (tgt := 34) X g_23 dX12_knew_22 (by decide) (fun c_28 => ?_) (fun c_28 => ?_)
    · have hw := hwt c_28
      refine j_bipush X dX12_knew_34 (by decide) ?_
      exact k_ir X rfl h hw dX12_knew_36
    · have hw := hwf c_28
      refine lv_iload_n X.1 X.2.1 dX12_knew_25 rfl (lv_at hl 2 rfl) ?_
      refine j_iconst X dX12_knew_26 ?_
      refine lv_iload_n X.1 X.2.1 dX12_knew_27 rfl (lv_at hl 3 rfl) ?_
      refine k_i h (r_S (As := [.int (iv x2), .int (iv 0), .int (iv x3)]) (rest := []) X h (c_X12_within l D ct ad L φ N0 σ_21 x2 0 x3 _ hw) rfl rfl ⟨Nat.le_of_ble_eq_true rfl, Nat.le_of_ble_eq_true rfl⟩ kw_1959 kw_1960 kw_129 kw_1961 pd_X12_within rfl hl.1 rfl (Nat.le_of_ble_eq_true rfl) ⟨Nat.le_of_ble_eq_true rfl, Nat.le_of_ble_eq_true rfl⟩ dX12_knew_28) (fun r_25 σ_24 H locs hw h => ?_)
      obtain ⟨g_26, hwt, hwf⟩ := hw
      refine j_if_ne (tgt := 37) X g_26 dX12_knew_31 (by decide) (fun c_27 => ?_) (fun c_27 => ?_)
      · have hw := hwt c_27
        refine j_iconst X dX12_knew_37 ?_
        refine lv_istore (lv' := [(4, .int (iv (-1))), (0, .ref (ad 12 0)), (1, .int (iv x1)), (2, .int (iv x2)), (3, .int (iv x3))]) X.1 X.2.1 dX12_knew_38 hl (by decide) rfl (fun ls hl => ?_)
        refine j_iconst X dX12_knew_40 ?_
        refine lv_istore (lv' := [(5, .int (iv 0)), (4, .int (iv (-1))), (0, .ref (ad 12 0)), (1, .int (iv x1)), (2, .int (iv x2)), (3, .int (iv x3))]) X.1 X.2.1 dX12_knew_41 hl (by decide) rfl (fun ls hl => ?_)
        exact hw.elim (fun n43 hw => lb_X12_knew_43 X n43 σ_24 x1 x2 x3 (-1) 0 _ _ _ hw h (lv_sub hl [2, 3, 4, 5, 1, 0] rfl))
      · have hw := hwf c_27
        refine j_bipush X dX12_knew_34 (by decide) ?_
        exact k_ir X rfl h hw dX12_knew_36
end
section
variable {p : Program} {l : Launch} {e : Env} {s : State} {m : MethodId} {args : Array Value} {below : List Frame} {meth : Method} {c : Code} {D : va_G} {ct : Nat → ClassId} {ad : Nat → Nat → Nat} {L : List (Nat × Nat)} {φ : Nat → Nat → Nat → Bool} {N0 : Nat}
variable {Q : Int → St → Prop}
theorem pd_X12_alter : yX12_alter.cls ≠ "java/lang/invoke/MethodHandle" ∧ yX12_alter.cls ≠ "java/lang/invoke/VarHandle" ∧ (parseMethodDescriptor yX12_alter.desc).map (fun d => d.parameters.length) = some 3 := by decide +kernel
set_option maxRecDepth 100000 in
set_option maxHeartbeats 4000000 in
theorem c_X12_alter (l : Launch) (D : va_G) (ct : Nat → ClassId) (ad : Nat → Nat → Nat) (L : List (Nat × Nat)) (φ : Nat → Nat → Nat → Bool) (N0 : Nat) (σ : St) (x1 : Int) (x2 : Int) (x3 : Int) (Q : Int → St → Prop) (hw : wp_X12_alter σ x1 x2 x3 Q) : Met l yX12_alter (.code yX12_alter cX12_alter 4 (some .boolean) :: gw) ({ frames := 2, cells := 0, slots := 0, locals := 43 } : Room) (Pm D ct ad L φ N0 σ [.ref (ad 12 0), .int (iv x1), .int (iv x2), .int (iv x3)]) (Qi D ct ad L φ N0 Q) 0 0 (AA N0) := by
  refine m_of (by decide) (fun p e s m below meth c X hnm h => ?_)
  have hF := X.2.2.2.2.2.2.2.2.1
  have hl := lv_entry ([.ref (ad 12 0), .int (iv x1), .int (iv x2), .int (iv x3)]) (n := 4) (Nat.le_of_ble_eq_true rfl)
  rw [lg_entry_eq]
  generalize (lg_sl ([.ref (ad 12 0), .int (iv x1), .int (iv x2), .int (iv x3)]) ++ List.replicate (4 - (lg_sl ([.ref (ad 12 0), .int (iv x1), .int (iv x2), .int (iv x3)])).length) Slot.unset).toArray = ls at hl ⊢
  have hl : lv_has ls 4 [(0, .ref (ad 12 0)), (1, .int (iv x1)), (2, .int (iv x2)), (3, .int (iv x3))] := hl
  have h : Hs D ct ad L φ N0 s.heap σ s.heap [] := h
  unfold wp_X12_alter at hw
  refine lv_aload_n X.1 X.2.1 dX12_alter_0 rfl (lv_at hl 0 rfl) ?_
  refine j_iconst X dX12_alter_1 ?_
  refine r_put (ci := 12) X inw_12 tyX12 tyX12_ok nmX12 h (hF.1 12 rfl).1 rfl rfl 0 (by decide) kw_1638 rfl rfl rfl (Nat.le_of_ble_eq_true rfl) rfl rfl dX12_alter_2 (fun H locs h => ?_)
  obtain ⟨σ_1, eσ_1⟩ : ∃ z : St, z = st σ 12 0 0 0 := ⟨_, rfl⟩
  rw [← eσ_1] at h
  have hw := hw σ_1 eσ_1
  refine lv_aload_n X.1 X.2.1 dX12_alter_5 rfl (lv_at hl 0 rfl) ?_
  refine lv_iload_n X.1 X.2.1 dX12_alter_6 rfl (lv_at hl 1 rfl) ?_
  refine k_i h (r_V (C := RX12) (ci := 12) (As := [.int (iv x1)]) (rest := []) X h (c_X12_isLog l D ct ad L φ N0 σ_1 x1 _ hw) rfl rfl ⟨Nat.le_of_ble_eq_true rfl, Nat.le_of_ble_eq_true rfl⟩ kw_2027 kw_2029 kw_69 kw_129 kw_2030 ⟨rfl, pd_X12_isLog⟩ (hF.1 12 rfl).1 rfl rfl rfl hl.1 rfl (Nat.le_of_ble_eq_true rfl) ⟨Nat.le_of_ble_eq_true rfl, Nat.le_of_ble_eq_true rfl⟩ dX12_alter_7) (fun r_3 σ_2 H locs hw h => ?_)
  obtain ⟨g_4, hwt, hwf⟩ := hw
  refine j_if_eq (tgt := 33) X g_4 dX12_alter_10 (by decide) (fun c_18 => ?_) (fun c_18 => ?_)
  · have hw := hwt c_18
    refine j_iconst X dX12_alter_33 ?_
    exact k_ir X rfl h hw dX12_alter_34
  · have hw := hwf c_18
    refine lv_iload_n X.1 X.2.1 dX12_alter_13 rfl (lv_at hl 2 rfl) ?_
    refine j_iconst X dX12_alter_14 ?_
    refine j_iconst X dX12_alter_15 ?_
    refine k_i h (r_S (As := [.int (iv x2), .int (iv 0), .int (iv 4)]) (rest := []) X h (c_X12_within l D ct ad L φ N0 σ_2 x2 0 4 _ hw) rfl rfl ⟨Nat.le_of_ble_eq_true rfl, Nat.le_of_ble_eq_true rfl⟩ kw_1959 kw_1960 kw_129 kw_1961 pd_X12_within rfl hl.1 rfl (Nat.le_of_ble_eq_true rfl) ⟨Nat.le_of_ble_eq_true rfl, Nat.le_of_ble_eq_true rfl⟩ dX12_alter_16) (fun r_6 σ_5 H locs hw h => ?_)
    obtain ⟨g_7, hwt, hwf⟩ := hw
    refine j_if_eq (tgt := 33) X g_7 dX12_alter_19 (by decide) (fun c_17 => ?_) (fun c_17 => ?_)
    · have hw := hwt c_17
      refine j_iconst X dX12_alter_33 ?_
      exact k_ir X rfl h hw dX12_alter_34
    · have hw := hwf c_17
      refine lv_iload_n X.1 X.2.1 dX12_alter_22 rfl (lv_at hl 3 rfl) ?_
      refine j_iconst X dX12_alter_23 ?_
      refine j_ldc_w (n := 65535) X kw_2035 (by decide) dX12_alter_24 ?_
      refine k_i h (r_S (As := [.int (iv x3), .int (iv 1), .int (iv 65535)]) (rest := []) X h (c_X12_within l D ct ad L φ N0 σ_5 x3 1 65535 _ hw) rfl rfl ⟨Nat.le_of_ble_eq_true rfl, Nat.le_of_ble_eq_true rfl⟩ kw_1959 kw_1960 kw_129 kw_1961 pd_X12_within rfl hl.1 rfl (Nat.le_of_ble_eq_true rfl) ⟨Nat.le_of_ble_eq_true rfl, Nat.le_of_ble_eq_true rfl⟩ dX12_alter_27) (fun r_9 σ_8 H locs hw h => ?_)
      obtain ⟨g_10, hwt, hwf⟩ := hw
      refine j_if_ne (tgt := 35) X g_10 dX12_alter_30 (by decide) (fun c_16 => ?_) (fun c_16 => ?_)
      · have hw := hwt c_16
        refine lv_aload_n X.1 X.2.1 dX12_alter_35 rfl (lv_at hl 0 rfl) ?_
        refine r_getR (ci := 12) X inw_12 h (hF.1 12 rfl).1 rfl rfl 29 (by decide) kw_1667 rfl ((hF.1 12 rfl).2 29) dX12_alter_36 ?_
        refine j_iconst X dX12_alter_39 ?_
        refine lv_iload_n X.1 X.2.1 dX12_alter_40 rfl (lv_at hl 1 rfl) ?_
        refine j_imul X dX12_alter_41 ?_
        refine lv_iload_n X.1 X.2.1 dX12_alter_42 rfl (lv_at hl 2 rfl) ?_
        refine j_iadd X dX12_alter_43 ?_
        refine lv_dup2_11 X.1 X.2.1 dX12_alter_44 rfl rfl ?_
        obtain ⟨g_11, g_12, hw⟩ := hw
        refine r_iald (n := 1500) X h (hF.1 106 rfl).1 rfl (by decide) g_11 g_12 dX12_alter_45 ?_
        refine lv_iload_n X.1 X.2.1 dX12_alter_46 rfl (lv_at hl 3 rfl) ?_
        refine j_ixor X dX12_alter_47 ?_
        obtain ⟨g_13, g_14, hw⟩ := hw
        refine r_iast (n := 1500) X h (hF.1 106 rfl).1 (fun _ => rfl) (by decide) g_13 g_14 rfl dX12_alter_48 (fun H locs h => ?_)
        obtain ⟨σ_15, eσ_15⟩ : ∃ z : St, z = st σ_8 106 0 (Int.toNat ((5 * x1) + x2)) (i_ixor (σ_8 106 0 (Int.toNat ((5 * x1) + x2))) x3) := ⟨_, rfl⟩
        rw [← eσ_15] at h
        have hw := hw σ_15 eσ_15
        refine j_iconst X dX12_alter_49 ?_
        exact k_ir X rfl h hw dX12_alter_50
      · have hw := hwf c_16
        refine j_iconst X dX12_alter_33 ?_
        exact k_ir X rfl h hw dX12_alter_34
end
section
variable {p : Program} {l : Launch} {e : Env} {s : State} {m : MethodId} {args : Array Value} {below : List Frame} {meth : Method} {c : Code} {D : va_G} {ct : Nat → ClassId} {ad : Nat → Nat → Nat} {L : List (Nat × Nat)} {φ : Nat → Nat → Nat → Bool} {N0 : Nat}
variable {Q : Int → St → Prop}
set_option maxRecDepth 100000 in
set_option maxHeartbeats 4000000 in
theorem lb_X12_checks_136 (X : Cx p s m meth c args cX12_checks 6 (some .int) RX12 D ct L φ N0) (σ : St) (x2 : Int) (x4 : Int) (H : Heap) (locs : List Loc) (ls : Array Slot) (hw : wp_X12_checks_136 Q σ x2 x4) (h : Hs D ct ad L φ N0 s.heap σ H locs) (hl : lv_has ls 6 [(0, .ref (ad 12 0)), (2, .int (iv x2)), (4, .int (iv x4))]) : W p l e ({ frames := 1, cells := 0, slots := 0, locals := 24 } : Room) s m args below meth c H locs 0 0 (MQ below (Qi D ct ad L φ N0 Q) args s 0 0 (AA N0)) (F0 m 136 ls []) := by
  have hF := X.2.2.2.2.2.2.2.2.1
  unfold wp_X12_checks_136 at hw
  refine lv_aload_n X.1 X.2.1 dX12_checks_136 rfl (lv_at hl 0 rfl) ?_
  refine lv_iload X.1 X.2.1 dX12_checks_137 (lv_at hl 2 rfl) ?_
  refine r_put (ci := 12) X inw_12 tyX12 tyX12_ok nmX12 h (hF.1 12 rfl).1 rfl rfl 32 (by decide) kw_1670 rfl rfl rfl (Nat.le_of_ble_eq_true rfl) rfl rfl dX12_checks_139 (fun H locs h => ?_)
  obtain ⟨σ_1, eσ_1⟩ : ∃ z : St, z = st σ 12 0 32 x4 := ⟨_, rfl⟩
  rw [← eσ_1] at h
  have hw := hw σ_1 eσ_1
  refine lv_iload_n X.1 X.2.1 dX12_checks_142 rfl (lv_at hl 1 rfl) ?_
  exact k_ir X rfl h hw dX12_checks_143
set_option maxRecDepth 100000 in
set_option maxHeartbeats 4000000 in
theorem lb_X12_checks_115 (X : Cx p s m meth c args cX12_checks 6 (some .int) RX12 D ct L φ N0) {K34 : St → Int → Int → Prop} {K136 : St → Int → Int → Prop} (hK34 : ∀ (σ : St) (x1 : Int) (x2 : Int) (H : Heap) (locs : List Loc) (ls : Array Slot), K34 σ x1 x2 → Hs D ct ad L φ N0 s.heap σ H locs → lv_has ls 6 [(0, .ref (ad 12 0)), (1, .int (iv x1)), (2, .int (iv x2))] → W p l e ({ frames := 1, cells := 0, slots := 0, locals := 24 } : Room) s m args below meth c H locs 0 0 (MQ below (Qi D ct ad L φ N0 Q) args s 0 0 (AA N0)) (F0 m 34 ls [])) (hK136 : ∀ (σ : St) (x2 : Int) (x4 : Int) (H : Heap) (locs : List Loc) (ls : Array Slot), K136 σ x2 x4 → Hs D ct ad L φ N0 s.heap σ H locs → lv_has ls 6 [(0, .ref (ad 12 0)), (2, .int (iv x2)), (4, .int (iv x4))] → W p l e ({ frames := 1, cells := 0, slots := 0, locals := 24 } : Room) s m args below meth c H locs 0 0 (MQ below (Qi D ct ad L φ N0 Q) args s 0 0 (AA N0)) (F0 m 136 ls [])) (σ : St) (x1 : Int) (x2 : Int) (x3 : Int) (x4 : Int) (y0 : Int) (H : Heap) (locs : List Loc) (ls : Array Slot) (hw : wp_X12_checks_115 K34 K136 Q σ x1 x2 x3 x4 y0) (h : Hs D ct ad L φ N0 s.heap σ H locs) (hl : lv_has ls 6 [(0, .ref (ad 12 0)), (1, .int (iv x1)), (2, .int (iv x2)), (3, .int (iv x3)), (4, .int (iv x4))]) : W p l e ({ frames := 1, cells := 0, slots := 0, locals := 24 } : Room) s m args below meth c H locs 0 0 (MQ below (Qi D ct ad L φ N0 Q) args s 0 0 (AA N0)) (F0 m 115 ls [.int (iv y0)]) := by
  have hF := X.2.2.2.2.2.2.2.2.1
  unfold wp_X12_checks_115 at hw
  refine lv_istore (lv' := [(5, .int (iv y0)), (0, .ref (ad 12 0)), (1, .int (iv x1)), (2, .int (iv x2)), (3, .int (iv x3)), (4, .int (iv x4))]) X.1 X.2.1 dX12_checks_115 hl (by decide) rfl (fun ls hl => ?_)
  refine lv_aload_n X.1 X.2.1 dX12_checks_117 rfl (lv_at hl 1 rfl) ?_
  refine r_getR (ci := 12) X inw_12 h (hF.1 12 rfl).1 rfl rfl 29 (by decide) kw_1667 rfl ((hF.1 12 rfl).2 29) dX12_checks_118 ?_
  refine j_iconst X dX12_checks_121 ?_
  refine lv_iload_n X.1 X.2.1 dX12_checks_122 rfl (lv_at hl 2 rfl) ?_
  refine j_imul X dX12_checks_123 ?_
  refine lv_iload_n X.1 X.2.1 dX12_checks_124 rfl (lv_at hl 3 rfl) ?_
  refine j_iadd X dX12_checks_125 ?_
  refine lv_iload_n X.1 X.2.1 dX12_checks_126 rfl (lv_at hl 4 rfl) ?_
  obtain ⟨g_2, g_3, hw⟩ := hw
  refine r_iast (n := 1500) X h (hF.1 106 rfl).1 (fun _ => rfl) (by decide) g_2 g_3 rfl dX12_checks_127 (fun H locs h => ?_)
  obtain ⟨σ_4, eσ_4⟩ : ∃ z : St, z = st σ 106 0 (Int.toNat ((5 * x1) + x2)) x3 := ⟨_, rfl⟩
  rw [← eσ_4] at h
  have hw := hw σ_4 eσ_4
  refine lv_iload X.1 X.2.1 dX12_checks_128 (lv_at hl 0 rfl) ?_
  obtain ⟨g_5, hwt, hwf⟩ := hw
  refine j_if_ne (tgt := 136) X g_5 dX12_checks_130 (by decide) (fun c_6 => ?_) (fun c_6 => ?_)
  · have hw := hwt c_6
    exact hK136 σ_4 x2 x4 _ _ _ hw h (lv_sub hl [1, 3, 5] rfl)
  · have hw := hwf c_6
    refine lv_goto (tgt := 144) X.1 X.2.1 dX12_checks_133 (by decide) ?_
    refine j_iinc (kk9 := 3) (lv' := [(2, .int (iv (x2 + 1))), (5, .int (iv y0)), (0, .ref (ad 12 0)), (1, .int (iv x1)), (3, .int (iv x3)), (4, .int (iv x4))]) X dX12_checks_144 hl rfl (by decide) rfl (fun ls hl => ?_)
    refine lv_goto (tgt := 34) X.1 X.2.1 dX12_checks_147 (by decide) ?_
    exact hK34 σ_4 x1 (x2 + 1) _ _ _ hw h (lv_sub hl [2, 3, 0] rfl)
set_option maxRecDepth 100000 in
set_option maxHeartbeats 4000000 in
theorem lb_X12_checks_114 (X : Cx p s m meth c args cX12_checks 6 (some .int) RX12 D ct L φ N0) {K34 : St → Int → Int → Prop} {K136 : St → Int → Int → Prop} (hK34 : ∀ (σ : St) (x1 : Int) (x2 : Int) (H : Heap) (locs : List Loc) (ls : Array Slot), K34 σ x1 x2 → Hs D ct ad L φ N0 s.heap σ H locs → lv_has ls 6 [(0, .ref (ad 12 0)), (1, .int (iv x1)), (2, .int (iv x2))] → W p l e ({ frames := 1, cells := 0, slots := 0, locals := 24 } : Room) s m args below meth c H locs 0 0 (MQ below (Qi D ct ad L φ N0 Q) args s 0 0 (AA N0)) (F0 m 34 ls [])) (hK136 : ∀ (σ : St) (x2 : Int) (x4 : Int) (H : Heap) (locs : List Loc) (ls : Array Slot), K136 σ x2 x4 → Hs D ct ad L φ N0 s.heap σ H locs → lv_has ls 6 [(0, .ref (ad 12 0)), (2, .int (iv x2)), (4, .int (iv x4))] → W p l e ({ frames := 1, cells := 0, slots := 0, locals := 24 } : Room) s m args below meth c H locs 0 0 (MQ below (Qi D ct ad L φ N0 Q) args s 0 0 (AA N0)) (F0 m 136 ls [])) (σ : St) (x1 : Int) (x2 : Int) (x3 : Int) (x4 : Int) (H : Heap) (locs : List Loc) (ls : Array Slot) (hw : wp_X12_checks_114 K34 K136 Q σ x1 x2 x3 x4) (h : Hs D ct ad L φ N0 s.heap σ H locs) (hl : lv_has ls 6 [(0, .ref (ad 12 0)), (1, .int (iv x1)), (2, .int (iv x2)), (3, .int (iv x3)), (4, .int (iv x4))]) : W p l e ({ frames := 1, cells := 0, slots := 0, locals := 24 } : Room) s m args below meth c H locs 0 0 (MQ below (Qi D ct ad L φ N0 Q) args s 0 0 (AA N0)) (F0 m 114 ls []) := by
  have hF := X.2.2.2.2.2.2.2.2.1
  unfold wp_X12_checks_114 at hw
  refine j_iconst X dX12_checks_114 ?_
  exact lb_X12_checks_115 X hK34 hK136 σ x1 x2 x3 x4 0 _ _ _ hw h (lv_sub hl [0, 1, 2, 3, 4] rfl)
set_option maxRecDepth 100000 in
set_option maxHeartbeats 4000000 in
theorem lb_X12_checks_34 (X : Cx p s m meth c args cX12_checks 6 (some .int) RX12 D ct L φ N0) {K136 : St → Int → Int → Prop} (hK136 : ∀ (σ : St) (x2 : Int) (x4 : Int) (H : Heap) (locs : List Loc) (ls : Array Slot), K136 σ x2 x4 → Hs D ct ad L φ N0 s.heap σ H locs → lv_has ls 6 [(0, .ref (ad 12 0)), (2, .int (iv x2)), (4, .int (iv x4))] → W p l e ({ frames := 1, cells := 0, slots := 0, locals := 24 } : Room) s m args below meth c H locs 0 0 (MQ below (Qi D ct ad L φ N0 Q) args s 0 0 (AA N0)) (F0 m 136 ls [])) : ∀ (n : Nat) (σ : St) (x1 : Int) (x2 : Int) (H : Heap) (locs : List Loc) (ls : Array Slot), wp_X12_checks_34 K136 Q n σ x1 x2 → Hs D ct ad L φ N0 s.heap σ H locs → lv_has ls 6 [(0, .ref (ad 12 0)), (1, .int (iv x1)), (2, .int (iv x2))] → W p l e ({ frames := 1, cells := 0, slots := 0, locals := 24 } : Room) s m args below meth c H locs 0 0 (MQ below (Qi D ct ad L φ N0 Q) args s 0 0 (AA N0)) (F0 m 34 ls []) := by
  have hF := X.2.2.2.2.2.2.2.2.1
  intro n
  induction n with
  | zero => intro σ x1 x2 H locs ls hw; exact hw.elim
  | succ n ih =>
    intro σ x1 x2 H locs ls hw h hl
    unfold wp_X12_checks_34 at hw
    refine lv_iload_n X.1 X.2.1 dX12_checks_34 rfl (lv_at hl 2 rfl) ?_
    refine j_iconst X dX12_checks_35 ?_
    obtain ⟨g_7, hwt, hwf⟩ := hw
    refine j_cmp_ge (tgt := 150) X g_7 ⟨by decide, by decide⟩ dX12_checks_36 (by decide) (fun c_29 => ?_) (fun c_29 => ?_)
    · have hw := hwt c_29
      refine j_bipush X dX12_checks_150 (by decide) ?_
      exact k_ir X rfl h hw dX12_checks_152
    · have hw := hwf c_29
      refine lv_aload_n X.1 X.2.1 dX12_checks_39 rfl (lv_at hl 0 rfl) ?_
      refine r_getR (ci := 12) X inw_12 h (hF.1 12 rfl).1 rfl rfl 29 (by decide) kw_1667 rfl ((hF.1 12 rfl).2 29) dX12_checks_40 ?_
      refine j_iconst X dX12_checks_43 ?_
      refine lv_iload_n X.1 X.2.1 dX12_checks_44 rfl (lv_at hl 1 rfl) ?_
      refine j_imul X dX12_checks_45 ?_
      refine lv_iload_n X.1 X.2.1 dX12_checks_46 rfl (lv_at hl 2 rfl) ?_
      refine j_iadd X dX12_checks_47 ?_
      obtain ⟨g_8, g_9, hw⟩ := hw
      refine r_iald (n := 1500) X h (hF.1 106 rfl).1 rfl (by decide) g_8 g_9 dX12_checks_48 ?_
      refine j_bind (fun v_10 ev_10 => ?_)
      have hw := hw v_10 ev_10
      refine lv_istore_n (lv' := [(3, .int (iv v_10)), (0, .ref (ad 12 0)), (1, .int (iv x1)), (2, .int (iv x2))]) X.1 X.2.1 dX12_checks_49 rfl hl (by decide) rfl (fun ls hl => ?_)
      refine lv_iload_n X.1 X.2.1 dX12_checks_50 rfl (lv_at hl 0 rfl) ?_
      refine lv_aload_n X.1 X.2.1 dX12_checks_51 rfl (lv_at hl 1 rfl) ?_
      refine r_getR (ci := 12) X inw_12 h (hF.1 12 rfl).1 rfl rfl 30 (by decide) kw_1668 rfl ((hF.1 12 rfl).2 30) dX12_checks_52 ?_
      refine lv_iload_n X.1 X.2.1 dX12_checks_55 rfl (lv_at hl 2 rfl) ?_
      obtain ⟨g_11, g_12, hw⟩ := hw
      refine r_iald (n := 300) X h (hF.1 107 rfl).1 rfl (by decide) g_11 g_12 dX12_checks_56 ?_
      refine j_iadd X dX12_checks_57 ?_
      refine lv_aload_n X.1 X.2.1 dX12_checks_58 rfl (lv_at hl 1 rfl) ?_
      refine lv_iload_n X.1 X.2.1 dX12_checks_59 rfl (lv_at hl 2 rfl) ?_
      refine j_iconst X dX12_checks_60 ?_
      refine k_i h (r_V (C := RX12) (ci := 12) (As := [.int (iv x1), .int (iv 0)]) (rest := [.int (iv (v_10 + (σ 107 0 (Int.toNat x1))))]) X h (c_X12_sums l D ct ad L φ N0 σ x1 0 _ hw) rfl rfl ⟨Nat.le_of_ble_eq_true rfl, Nat.le_of_ble_eq_true rfl⟩ kw_2044 kw_2046 kw_71 kw_129 kw_2047 ⟨rfl, pd_X12_sums⟩ (hF.1 12 rfl).1 rfl rfl rfl hl.1 rfl (Nat.le_of_ble_eq_true rfl) ⟨Nat.le_of_ble_eq_true rfl, Nat.le_of_ble_eq_true rfl⟩ dX12_checks_61) (fun r_14 σ_13 H locs hw h => ?_)
      refine j_isub X dX12_checks_64 ?_
      refine j_ldc_w (n := 65537) X kw_2048 (by decide) dX12_checks_65 ?_
      refine j_iadd X dX12_checks_68 ?_
      refine j_ldc_w (n := 65537) X kw_2048 (by decide) dX12_checks_69 ?_
      obtain ⟨g_15, hw⟩ := hw
      refine j_irem X g_15 ⟨by decide, by decide⟩ (by decide) (by decide) dX12_checks_72 ?_
      refine j_bind (fun v_16 ev_16 => ?_)
      have hw := hw v_16 ev_16
      refine lv_istore (lv' := [(4, .int (iv v_16)), (3, .int (iv v_10)), (0, .ref (ad 12 0)), (1, .int (iv x1)), (2, .int (iv x2))]) X.1 X.2.1 dX12_checks_73 hl (by decide) rfl (fun ls hl => ?_)
      refine lv_aload_n X.1 X.2.1 dX12_checks_75 rfl (lv_at hl 2 rfl) ?_
      refine r_getR (ci := 12) X inw_12 h (hF.1 12 rfl).1 rfl rfl 29 (by decide) kw_1667 rfl ((hF.1 12 rfl).2 29) dX12_checks_76 ?_
      refine j_iconst X dX12_checks_79 ?_
      refine lv_iload_n X.1 X.2.1 dX12_checks_80 rfl (lv_at hl 3 rfl) ?_
      refine j_imul X dX12_checks_81 ?_
      refine lv_iload_n X.1 X.2.1 dX12_checks_82 rfl (lv_at hl 4 rfl) ?_
      refine j_iadd X dX12_checks_83 ?_
      refine lv_iload X.1 X.2.1 dX12_checks_84 (lv_at hl 0 rfl) ?_
      obtain ⟨g_17, g_18, hw⟩ := hw
      refine r_iast (n := 1500) X h (hF.1 106 rfl).1 (fun _ => rfl) (by decide) g_17 g_18 rfl dX12_checks_86 (fun H locs h => ?_)
      obtain ⟨σ_19, eσ_19⟩ : ∃ z : St, z = st σ_13 106 0 (Int.toNat ((5 * x1) + x2)) v_16 := ⟨_, rfl⟩
      rw [← eσ_19] at h
      have hw := hw σ_19 eσ_19
      refine lv_iload X.1 X.2.1 dX12_checks_87 (lv_at hl 0 rfl) ?_
      refine j_ldc_w (n := 65536) X kw_2049 (by decide) dX12_checks_89 ?_
      obtain ⟨g_20, hwt, hwf⟩ := hw
      refine j_cmp_ge (tgt := 114) X g_20 ⟨by decide, by decide⟩ dX12_checks_92 (by decide) (fun c_28 => ?_) (fun c_28 => ?_)
      · have hw := hwt c_28
        exact lb_X12_checks_114 X ih hK136 σ_19 x1 x2 v_10 v_16 _ _ _ hw h (lv_sub hl [2, 3, 4, 1, 0] rfl)
      · have hw := hwf c_28
        refine lv_aload_n X.1 X.2.1 dX12_checks_95 rfl (lv_at hl 2 rfl) ?_
        refine lv_iload_n X.1 X.2.1 dX12_checks_96 rfl (lv_at hl 3 rfl) ?_
        refine j_iconst X dX12_checks_97 ?_
        refine k_i h (r_V (C := RX12) (ci := 12) (As := [.int (iv x1), .int (iv 1)]) (rest := []) X h (c_X12_sums l D ct ad L φ N0 σ_19 x1 1 _ hw) rfl rfl ⟨Nat.le_of_ble_eq_true rfl, Nat.le_of_ble_eq_true rfl⟩ kw_2044 kw_2046 kw_71 kw_129 kw_2047 ⟨rfl, pd_X12_sums⟩ (hF.1 12 rfl).1 rfl rfl rfl hl.1 rfl (Nat.le_of_ble_eq_true rfl) ⟨Nat.le_of_ble_eq_true rfl, Nat.le_of_ble_eq_true rfl⟩ dX12_checks_98) (fun r_22 σ_21 H locs hw h => ?_)
        refine lv_aload_n X.1 X.2.1 dX12_checks_101 rfl (lv_at hl 2 rfl) ?_
        refine r_getR (ci := 12) X inw_12 h (hF.1 12 rfl).1 rfl rfl 31 (by decide) kw_1669 rfl ((hF.1 12 rfl).2 31) dX12_checks_102 ?_
        refine lv_iload_n X.1 X.2.1 dX12_checks_105 rfl (lv_at hl 3 rfl) ?_
        obtain ⟨g_23, g_24, hw⟩ := hw
        refine r_iald (n := 300) X h (hF.1 108 rfl).1 rfl (by decide) g_23 g_24 dX12_checks_106 ?_
        obtain ⟨g_25, g_26, hwt, hwf⟩ := hw
        refine j_cmp_ne (tgt := 114) X g_25 g_26 dX12_checks_107 (by decide) (fun c_27 => ?_) (fun c_27 => ?_)
        · have hw := hwt c_27
          exact lb_X12_checks_114 X ih hK136 σ_21 x1 x2 v_10 v_16 _ _ _ hw h (lv_sub hl [2, 3, 4, 1, 0] rfl)
        · have hw := hwf c_27
          refine j_iconst X dX12_checks_110 ?_
          refine lv_goto (tgt := 115) X.1 X.2.1 dX12_checks_111 (by decide) ?_
          exact lb_X12_checks_115 X ih hK136 σ_21 x1 x2 v_10 v_16 1 _ _ _ hw h (lv_sub hl [2, 3, 4, 1, 0] rfl)
set_option maxRecDepth 100000 in
set_option maxHeartbeats 4000000 in
theorem lb_X12_checks_32 (X : Cx p s m meth c args cX12_checks 6 (some .int) RX12 D ct L φ N0) (σ : St) (x1 : Int) (H : Heap) (locs : List Loc) (ls : Array Slot) (hw : wp_X12_checks_32 Q σ x1) (h : Hs D ct ad L φ N0 s.heap σ H locs) (hl : lv_has ls 6 [(0, .ref (ad 12 0)), (1, .int (iv x1))]) : W p l e ({ frames := 1, cells := 0, slots := 0, locals := 24 } : Room) s m args below meth c H locs 0 0 (MQ below (Qi D ct ad L φ N0 Q) args s 0 0 (AA N0)) (F0 m 32 ls []) := by
  have hF := X.2.2.2.2.2.2.2.2.1
  unfold wp_X12_checks_32 at hw
  refine j_iconst X dX12_checks_32 ?_
  refine lv_istore_n (lv' := [(2, .int (iv 0)), (0, .ref (ad 12 0)), (1, .int (iv x1))]) X.1 X.2.1 dX12_checks_33 rfl hl (by decide) rfl (fun ls hl => ?_)
  exact hw.elim (fun n34 hw => lb_X12_checks_34 X (lb_X12_checks_136 X) n34 σ x1 0 _ _ _ hw h (lv_sub hl [1, 2, 0] rfl))
theorem pd_X12_checks : yX12_checks.cls ≠ "java/lang/invoke/MethodHandle" ∧ yX12_checks.cls ≠ "java/lang/invoke/VarHandle" ∧ (parseMethodDescriptor yX12_checks.desc).map (fun d => d.parameters.length) = some 1 := by decide +kernel
set_option maxRecDepth 100000 in
set_option maxHeartbeats 4000000 in
theorem c_X12_checks (l : Launch) (D : va_G) (ct : Nat → ClassId) (ad : Nat → Nat → Nat) (L : List (Nat × Nat)) (φ : Nat → Nat → Nat → Bool) (N0 : Nat) (σ : St) (x1 : Int) (Q : Int → St → Prop) (hw : wp_X12_checks σ x1 Q) : Met l yX12_checks (.code yX12_checks cX12_checks 6 (some .int) :: gw) ({ frames := 1, cells := 0, slots := 0, locals := 24 } : Room) (Pm D ct ad L φ N0 σ [.ref (ad 12 0), .int (iv x1)]) (Qi D ct ad L φ N0 Q) 0 0 (AA N0) := by
  refine m_of (by decide) (fun p e s m below meth c X hnm h => ?_)
  have hF := X.2.2.2.2.2.2.2.2.1
  have hl := lv_entry ([.ref (ad 12 0), .int (iv x1)]) (n := 6) (Nat.le_of_ble_eq_true rfl)
  rw [lg_entry_eq]
  generalize (lg_sl ([.ref (ad 12 0), .int (iv x1)]) ++ List.replicate (6 - (lg_sl ([.ref (ad 12 0), .int (iv x1)])).length) Slot.unset).toArray = ls at hl ⊢
  have hl : lv_has ls 6 [(0, .ref (ad 12 0)), (1, .int (iv x1))] := hl
  have h : Hs D ct ad L φ N0 s.heap σ s.heap [] := h
  unfold wp_X12_checks at hw
  refine lv_aload_n X.1 X.2.1 dX12_checks_0 rfl (lv_at hl 0 rfl) ?_
  refine lv_iload_n X.1 X.2.1 dX12_checks_1 rfl (lv_at hl 1 rfl) ?_
  refine j_iconst X dX12_checks_2 ?_
  refine k_i h (r_V (C := RX12) (ci := 12) (As := [.int (iv x1), .int (iv 0)]) (rest := []) X h (c_X12_sums l D ct ad L φ N0 σ x1 0 _ hw) rfl rfl ⟨Nat.le_of_ble_eq_true rfl, Nat.le_of_ble_eq_true rfl⟩ kw_2044 kw_2046 kw_71 kw_129 kw_2047 ⟨rfl, pd_X12_sums⟩ (hF.1 12 rfl).1 rfl rfl rfl hl.1 rfl (Nat.le_of_ble_eq_true rfl) ⟨Nat.le_of_ble_eq_true rfl, Nat.le_of_ble_eq_true rfl⟩ dX12_checks_3) (fun r_31 σ_30 H locs hw h => ?_)
  refine lv_aload_n X.1 X.2.1 dX12_checks_6 rfl (lv_at hl 0 rfl) ?_
  refine r_getR (ci := 12) X inw_12 h (hF.1 12 rfl).1 rfl rfl 30 (by decide) kw_1668 rfl ((hF.1 12 rfl).2 30) dX12_checks_7 ?_
  refine lv_iload_n X.1 X.2.1 dX12_checks_10 rfl (lv_at hl 1 rfl) ?_
  obtain ⟨g_32, g_33, hw⟩ := hw
  refine r_iald (n := 300) X h (hF.1 107 rfl).1 rfl (by decide) g_32 g_33 dX12_checks_11 ?_
  obtain ⟨g_34, g_35, hwt, hwf⟩ := hw
  refine j_cmp_ne (tgt := 32) X g_34 g_35 dX12_checks_12 (by decide) (fun c_43 => ?_) (fun c_43 => ?_)
  · have hw := hwt c_43
    exact lb_X12_checks_32 X σ_30 x1 _ _ _ hw h (lv_sub hl [0, 1] rfl)
  · have hw := hwf c_43
    refine lv_aload_n X.1 X.2.1 dX12_checks_15 rfl (lv_at hl 0 rfl) ?_
    refine lv_iload_n X.1 X.2.1 dX12_checks_16 rfl (lv_at hl 1 rfl) ?_
    refine j_iconst X dX12_checks_17 ?_
    refine k_i h (r_V (C := RX12) (ci := 12) (As := [.int (iv x1), .int (iv 1)]) (rest := []) X h (c_X12_sums l D ct ad L φ N0 σ_30 x1 1 _ hw) rfl rfl ⟨Nat.le_of_ble_eq_true rfl, Nat.le_of_ble_eq_true rfl⟩ kw_2044 kw_2046 kw_71 kw_129 kw_2047 ⟨rfl, pd_X12_sums⟩ (hF.1 12 rfl).1 rfl rfl rfl hl.1 rfl (Nat.le_of_ble_eq_true rfl) ⟨Nat.le_of_ble_eq_true rfl, Nat.le_of_ble_eq_true rfl⟩ dX12_checks_18) (fun r_37 σ_36 H locs hw h => ?_)
    refine lv_aload_n X.1 X.2.1 dX12_checks_21 rfl (lv_at hl 0 rfl) ?_
    refine r_getR (ci := 12) X inw_12 h (hF.1 12 rfl).1 rfl rfl 31 (by decide) kw_1669 rfl ((hF.1 12 rfl).2 31) dX12_checks_22 ?_
    refine lv_iload_n X.1 X.2.1 dX12_checks_25 rfl (lv_at hl 1 rfl) ?_
    obtain ⟨g_38, g_39, hw⟩ := hw
    refine r_iald (n := 300) X h (hF.1 108 rfl).1 rfl (by decide) g_38 g_39 dX12_checks_26 ?_
    obtain ⟨g_40, g_41, hwt, hwf⟩ := hw
    refine j_cmp_ne (tgt := 32) X g_40 g_41 dX12_checks_27 (by decide) (fun c_42 => ?_) (fun c_42 => ?_)
    · have hw := hwt c_42
      exact lb_X12_checks_32 X σ_36 x1 _ _ _ hw h (lv_sub hl [0, 1] rfl)
    · have hw := hwf c_42
      refine j_iconst X dX12_checks_30 ?_
      exact k_ir X rfl h hw dX12_checks_31
end
