/-! walked by program: 10.w -/
section
variable {p : Program} {l : Launch} {e : Env} {s : State} {m : MethodId} {args : Array Value} {below : List Frame} {meth : Method} {c : Code} {D : va_G} {ct : Nat → ClassId} {ad : Nat → Nat → Nat} {L : List (Nat × Nat)} {φ : Nat → Nat → Nat → Bool} {N0 : Nat}
variable {Q : Int → St → Prop}
theorem pd_J3_checkIndex_8e157 : yJ3_checkIndex_8e157.cls ≠ "java/lang/invoke/MethodHandle" ∧ yJ3_checkIndex_8e157.cls ≠ "java/lang/invoke/VarHandle" ∧ (parseMethodDescriptor yJ3_checkIndex_8e157.desc).map (fun d => d.parameters.length) = some 3 := by decide +kernel
set_option maxRecDepth 100000 in
set_option maxHeartbeats 4000000 in
theorem c_J3_checkIndex_8e157 (l : Launch) (D : va_G) (ct : Nat → ClassId) (ad : Nat → Nat → Nat) (L : List (Nat × Nat)) (φ : Nat → Nat → Nat → Bool) (N0 : Nat) (σ : St) (x0 : Int) (x1 : Int) (Q : Int → St → Prop) (hw : wp_J3_checkIndex_8e157 σ x0 x1 Q) : Met l yJ3_checkIndex_8e157 (.code yJ3_checkIndex_8e157 cJ3_checkIndex_8e157 3 (some .int) :: gw) ({ frames := 0, cells := 0, slots := 0, locals := 0 } : Room) (Pm D ct ad L φ N0 σ [.int (iv x0), .int (iv x1), .ref (ct 1003)]) (Qi D ct ad L φ N0 Q) 0 0 (AA N0) := by
  refine m_ofF (by decide +kernel) (fun p e s m below meth c X hnm h => ?_)
  have hF := X.2.2.2.2.2.2.2.2.1
  have hl := lv_entry ([.int (iv x0), .int (iv x1), .ref (ct 1003)]) (n := 3) (Nat.le_of_ble_eq_true rfl)
  rw [lg_entry_eq]
  generalize (lg_sl ([.int (iv x0), .int (iv x1), .ref (ct 1003)]) ++ List.replicate (3 - (lg_sl ([.int (iv x0), .int (iv x1), .ref (ct 1003)])).length) Slot.unset).toArray = ls at hl ⊢
  have hl : lv_has ls 3 [(0, .int (iv x0)), (1, .int (iv x1)), (2, .ref (ct 1003))] := hl
  have h : Hs D ct ad L φ N0 s.heap σ s.heap [] := h
  unfold wp_J3_checkIndex_8e157 at hw
  refine lv_iload_n X.1 X.2.1 dJ3_checkIndex_8e157_0 rfl (lv_at hl 0 rfl) ?_
  obtain ⟨g_1, hwt, hwf⟩ := hw
  refine j_if_lt (tgt := 9) X g_1 dJ3_checkIndex_8e157_1 (by decide) (fun c_5 => ?_) (fun c_5 => ?_)
  · have hw := hwt c_5
    refine lv_aload_n X.1 X.2.1 dJ3_checkIndex_8e157_9 rfl (lv_at hl 2 rfl) ?_
    refine lv_iload_n X.1 X.2.1 dJ3_checkIndex_8e157_10 rfl (lv_at hl 0 rfl) ?_
    refine lv_iload_n X.1 X.2.1 dJ3_checkIndex_8e157_11 rfl (lv_at hl 1 rfl) ?_
    exact hw.elim
  · have hw := hwf c_5
    refine lv_iload_n X.1 X.2.1 dJ3_checkIndex_8e157_4 rfl (lv_at hl 0 rfl) ?_
    refine lv_iload_n X.1 X.2.1 dJ3_checkIndex_8e157_5 rfl (lv_at hl 1 rfl) ?_
    obtain ⟨g_2, g_3, hwt, hwf⟩ := hw
    refine j_cmp_lt (tgt := 16) X g_2 g_3 dJ3_checkIndex_8e157_6 (by decide) (fun c_4 => ?_) (fun c_4 => ?_)
    · have hw := hwt c_4
      refine lv_iload_n X.1 X.2.1 dJ3_checkIndex_8e157_16 rfl (lv_at hl 0 rfl) ?_
      exact k_ir X rfl h hw dJ3_checkIndex_8e157_17
    · have hw := hwf c_4
      refine lv_aload_n X.1 X.2.1 dJ3_checkIndex_8e157_9 rfl (lv_at hl 2 rfl) ?_
      refine lv_iload_n X.1 X.2.1 dJ3_checkIndex_8e157_10 rfl (lv_at hl 0 rfl) ?_
      refine lv_iload_n X.1 X.2.1 dJ3_checkIndex_8e157_11 rfl (lv_at hl 1 rfl) ?_
      exact hw.elim
end
section
variable {p : Program} {l : Launch} {e : Env} {s : State} {m : MethodId} {args : Array Value} {below : List Frame} {meth : Method} {c : Code} {D : va_G} {ct : Nat → ClassId} {ad : Nat → Nat → Nat} {L : List (Nat × Nat)} {φ : Nat → Nat → Nat → Bool} {N0 : Nat}
variable {Q : Int → St → Prop}
theorem pd_J3_checkIndex_8e157n : yJ3_checkIndex_8e157.cls ≠ "java/lang/invoke/MethodHandle" ∧ yJ3_checkIndex_8e157.cls ≠ "java/lang/invoke/VarHandle" ∧ (parseMethodDescriptor yJ3_checkIndex_8e157.desc).map (fun d => d.parameters.length) = some 3 := by decide +kernel
set_option maxRecDepth 100000 in
set_option maxHeartbeats 4000000 in
theorem c_J3_checkIndex_8e157n (l : Launch) (D : va_G) (ct : Nat → ClassId) (ad : Nat → Nat → Nat) (L : List (Nat × Nat)) (φ : Nat → Nat → Nat → Bool) (N0 : Nat) (σ : St) (x0 : Int) (x1 : Int) (Q : Int → St → Prop) (hw : wp_J3_checkIndex_8e157n σ x0 x1 Q) : Met l yJ3_checkIndex_8e157 (.code yJ3_checkIndex_8e157 cJ3_checkIndex_8e157 3 (some .int) :: gw) ({ frames := 0, cells := 0, slots := 0, locals := 0 } : Room) (Pm D ct ad L φ N0 σ [.int (iv x0), .int (iv x1), .null]) (Qi D ct ad L φ N0 Q) 0 0 (AA N0) := by
  refine m_ofF (by decide +kernel) (fun p e s m below meth c X hnm h => ?_)
  have hF := X.2.2.2.2.2.2.2.2.1
  have hl := lv_entry ([.int (iv x0), .int (iv x1), .null]) (n := 3) (Nat.le_of_ble_eq_true rfl)
  rw [lg_entry_eq]
  generalize (lg_sl ([.int (iv x0), .int (iv x1), .null]) ++ List.replicate (3 - (lg_sl ([.int (iv x0), .int (iv x1), .null])).length) Slot.unset).toArray = ls at hl ⊢
  have hl : lv_has ls 3 [(0, .int (iv x0)), (1, .int (iv x1)), (2, .null)] := hl
  have h : Hs D ct ad L φ N0 s.heap σ s.heap [] := h
  unfold wp_J3_checkIndex_8e157n at hw
  refine lv_iload_n X.1 X.2.1 dJ3_checkIndex_8e157_0 rfl (lv_at hl 0 rfl) ?_
  obtain ⟨g_1, hwt, hwf⟩ := hw
  refine j_if_lt (tgt := 9) X g_1 dJ3_checkIndex_8e157_1 (by decide) (fun c_5 => ?_) (fun c_5 => ?_)
  · have hw := hwt c_5
    refine lv_aload_nN X.1 X.2.1 dJ3_checkIndex_8e157_9 rfl (lv_at hl 2 rfl) ?_
    refine lv_iload_n X.1 X.2.1 dJ3_checkIndex_8e157_10 rfl (lv_at hl 0 rfl) ?_
    refine lv_iload_n X.1 X.2.1 dJ3_checkIndex_8e157_11 rfl (lv_at hl 1 rfl) ?_
    exact hw.elim
  · have hw := hwf c_5
    refine lv_iload_n X.1 X.2.1 dJ3_checkIndex_8e157_4 rfl (lv_at hl 0 rfl) ?_
    refine lv_iload_n X.1 X.2.1 dJ3_checkIndex_8e157_5 rfl (lv_at hl 1 rfl) ?_
    obtain ⟨g_2, g_3, hwt, hwf⟩ := hw
    refine j_cmp_lt (tgt := 16) X g_2 g_3 dJ3_checkIndex_8e157_6 (by decide) (fun c_4 => ?_) (fun c_4 => ?_)
    · have hw := hwt c_4
      refine lv_iload_n X.1 X.2.1 dJ3_checkIndex_8e157_16 rfl (lv_at hl 0 rfl) ?_
      exact k_ir X rfl h hw dJ3_checkIndex_8e157_17
    · have hw := hwf c_4
      refine lv_aload_nN X.1 X.2.1 dJ3_checkIndex_8e157_9 rfl (lv_at hl 2 rfl) ?_
      refine lv_iload_n X.1 X.2.1 dJ3_checkIndex_8e157_10 rfl (lv_at hl 0 rfl) ?_
      refine lv_iload_n X.1 X.2.1 dJ3_checkIndex_8e157_11 rfl (lv_at hl 1 rfl) ?_
      exact hw.elim
end
section
variable {p : Program} {l : Launch} {e : Env} {s : State} {m : MethodId} {args : Array Value} {below : List Frame} {meth : Method} {c : Code} {D : va_G} {ct : Nat → ClassId} {ad : Nat → Nat → Nat} {L : List (Nat × Nat)} {φ : Nat → Nat → Nat → Bool} {N0 : Nat}
variable {Q : Int → St → Prop}
theorem pd_X3_lengthOf : yX3_lengthOf.cls ≠ "java/lang/invoke/MethodHandle" ∧ yX3_lengthOf.cls ≠ "java/lang/invoke/VarHandle" ∧ (parseMethodDescriptor yX3_lengthOf.desc).map (fun d => d.parameters.length) = some 1 := by decide +kernel
set_option maxRecDepth 100000 in
set_option maxHeartbeats 4000000 in
theorem c_X3_lengthOf (l : Launch) (D : va_G) (ct : Nat → ClassId) (ad : Nat → Nat → Nat) (L : List (Nat × Nat)) (φ : Nat → Nat → Nat → Bool) (N0 : Nat) (σ : St) (x0 : Int) (Q : Int → St → Prop) (hw : wp_X3_lengthOf σ x0 Q) : Met l yX3_lengthOf (.code yX3_lengthOf cX3_lengthOf 1 (some .int) :: gw) ({ frames := 0, cells := 0, slots := 0, locals := 0 } : Room) (Pm D ct ad L φ N0 σ [.int (iv x0)]) (Qi D ct ad L φ N0 Q) 0 0 (AA N0) := by
  refine m_of (by decide) (fun p e s m below meth c X hnm h => ?_)
  have hF := X.2.2.2.2.2.2.2.2.1
  have hl := lv_entry ([.int (iv x0)]) (n := 1) (Nat.le_of_ble_eq_true rfl)
  rw [lg_entry_eq]
  generalize (lg_sl ([.int (iv x0)]) ++ List.replicate (1 - (lg_sl ([.int (iv x0)])).length) Slot.unset).toArray = ls at hl ⊢
  have hl : lv_has ls 1 [(0, .int (iv x0))] := hl
  have h : Hs D ct ad L φ N0 s.heap σ s.heap [] := h
  unfold wp_X3_lengthOf at hw
  refine j_iconst X dX3_lengthOf_0 ?_
  refine j_iconst X dX3_lengthOf_1 ?_
  refine lv_iload_n X.1 X.2.1 dX3_lengthOf_2 rfl (lv_at hl 0 rfl) ?_
  refine j_imul X dX3_lengthOf_3 ?_
  refine j_iadd X dX3_lengthOf_4 ?_
  exact k_ir X rfl h hw dX3_lengthOf_5
end
section
variable {p : Program} {l : Launch} {e : Env} {s : State} {m : MethodId} {args : Array Value} {below : List Frame} {meth : Method} {c : Code} {D : va_G} {ct : Nat → ClassId} {ad : Nat → Nat → Nat} {L : List (Nat × Nat)} {φ : Nat → Nat → Nat → Bool} {N0 : Nat}
variable {Q : Int → St → Prop}
theorem pd_J9_max_7cf53 : yJ9_max_7cf53.cls ≠ "java/lang/invoke/MethodHandle" ∧ yJ9_max_7cf53.cls ≠ "java/lang/invoke/VarHandle" ∧ (parseMethodDescriptor yJ9_max_7cf53.desc).map (fun d => d.parameters.length) = some 2 := by decide +kernel
set_option maxRecDepth 100000 in
set_option maxHeartbeats 4000000 in
theorem c_J9_max_7cf53 (l : Launch) (D : va_G) (ct : Nat → ClassId) (ad : Nat → Nat → Nat) (L : List (Nat × Nat)) (φ : Nat → Nat → Nat → Bool) (N0 : Nat) (σ : St) (x0 : Int) (x1 : Int) (Q : Int → St → Prop) (hw : wp_J9_max_7cf53 σ x0 x1 Q) : Met l yJ9_max_7cf53 (.code yJ9_max_7cf53 cJ9_max_7cf53 2 (some .int) :: gw) ({ frames := 0, cells := 0, slots := 0, locals := 0 } : Room) (Pm D ct ad L φ N0 σ [.int (iv x0), .int (iv x1)]) (Qi D ct ad L φ N0 Q) 0 0 (AA N0) := by
  refine m_ofF (by decide +kernel) (fun p e s m below meth c X hnm h => ?_)
  have hF := X.2.2.2.2.2.2.2.2.1
  have hl := lv_entry ([.int (iv x0), .int (iv x1)]) (n := 2) (Nat.le_of_ble_eq_true rfl)
  rw [lg_entry_eq]
  generalize (lg_sl ([.int (iv x0), .int (iv x1)]) ++ List.replicate (2 - (lg_sl ([.int (iv x0), .int (iv x1)])).length) Slot.unset).toArray = ls at hl ⊢
  have hl : lv_has ls 2 [(0, .int (iv x0)), (1, .int (iv x1))] := hl
  have h : Hs D ct ad L φ N0 s.heap σ s.heap [] := h
  unfold wp_J9_max_7cf53 at hw
  refine lv_iload_n X.1 X.2.1 dJ9_max_7cf53_0 rfl (lv_at hl 0 rfl) ?_
  refine lv_iload_n X.1 X.2.1 dJ9_max_7cf53_1 rfl (lv_at hl 1 rfl) ?_
  obtain ⟨g_1, g_2, hwt, hwf⟩ := hw
  refine j_cmp_lt (tgt := 9) X g_1 g_2 dJ9_max_7cf53_2 (by decide) (fun c_3 => ?_) (fun c_3 => ?_)
  · have hw := hwt c_3
    refine lv_iload_n X.1 X.2.1 dJ9_max_7cf53_9 rfl (lv_at hl 1 rfl) ?_
    exact k_ir X rfl h hw dJ9_max_7cf53_10
  · have hw := hwf c_3
    refine lv_iload_n X.1 X.2.1 dJ9_max_7cf53_5 rfl (lv_at hl 0 rfl) ?_
    refine lv_goto (tgt := 10) X.1 X.2.1 dJ9_max_7cf53_6 (by decide) ?_
    exact k_ir X rfl h hw dJ9_max_7cf53_10
end
section
variable {p : Program} {l : Launch} {e : Env} {s : State} {m : MethodId} {args : Array Value} {below : List Frame} {meth : Method} {c : Code} {D : va_G} {ct : Nat → ClassId} {ad : Nat → Nat → Nat} {L : List (Nat × Nat)} {φ : Nat → Nat → Nat → Bool} {N0 : Nat}
variable {Q : Int → St → Prop}
theorem pd_X3_wideAt : yX3_wideAt.cls ≠ "java/lang/invoke/MethodHandle" ∧ yX3_wideAt.cls ≠ "java/lang/invoke/VarHandle" ∧ (parseMethodDescriptor yX3_wideAt.desc).map (fun d => d.parameters.length) = some 3 := by decide +kernel
set_option maxRecDepth 100000 in
set_option maxHeartbeats 4000000 in
theorem c_X3_wideAt (l : Launch) (D : va_G) (ct : Nat → ClassId) (ad : Nat → Nat → Nat) (L : List (Nat × Nat)) (φ : Nat → Nat → Nat → Bool) (N0 : Nat) (σ : St) (x1 : Int) (x2 : Int) (x3 : Int) (Q : Int → St → Prop) (hw : wp_X3_wideAt σ x1 x2 x3 Q) : Met l yX3_wideAt (.code yX3_wideAt cX3_wideAt 4 (some .int) :: gw) ({ frames := 1, cells := 0, slots := 0, locals := 21 } : Room) (Pm D ct ad L φ N0 σ [.ref (ad 3 0), .int (iv x1), .int (iv x2), .int (iv x3)]) (Qi D ct ad L φ N0 Q) 0 0 (AA N0) := by
  refine m_of (by decide) (fun p e s m below meth c X hnm h => ?_)
  have hF := X.2.2.2.2.2.2.2.2.1
  have hl := lv_entry ([.ref (ad 3 0), .int (iv x1), .int (iv x2), .int (iv x3)]) (n := 4) (Nat.le_of_ble_eq_true rfl)
  rw [lg_entry_eq]
  generalize (lg_sl ([.ref (ad 3 0), .int (iv x1), .int (iv x2), .int (iv x3)]) ++ List.replicate (4 - (lg_sl ([.ref (ad 3 0), .int (iv x1), .int (iv x2), .int (iv x3)])).length) Slot.unset).toArray = ls at hl ⊢
  have hl : lv_has ls 4 [(0, .ref (ad 3 0)), (1, .int (iv x1)), (2, .int (iv x2)), (3, .int (iv x3))] := hl
  have h : Hs D ct ad L φ N0 s.heap σ s.heap [] := h
  unfold wp_X3_wideAt at hw
  refine j_iconst X dX3_wideAt_0 ?_
  refine j_bipush X dX3_wideAt_1 (by decide) ?_
  refine j_bipush X dX3_wideAt_3 (by decide) ?_
  refine lv_iload_n X.1 X.2.1 dX3_wideAt_5 rfl (lv_at hl 2 rfl) ?_
  refine j_imul X dX3_wideAt_6 ?_
  refine j_iadd X dX3_wideAt_7 ?_
  refine lv_iload_n X.1 X.2.1 dX3_wideAt_8 rfl (lv_at hl 1 rfl) ?_
  refine j_iadd X dX3_wideAt_9 ?_
  refine lv_aload_n X.1 X.2.1 dX3_wideAt_10 rfl (lv_at hl 0 rfl) ?_
  refine r_getR (ci := 3) X inw_3 h (hF.1 3 rfl).1 rfl rfl 5 (by decide) kw_198 rfl ((hF.1 3 rfl).2 5) dX3_wideAt_11 ?_
  refine lv_iload_n X.1 X.2.1 dX3_wideAt_14 rfl (lv_at hl 1 rfl) ?_
  obtain ⟨g_1, g_2, hw⟩ := hw
  refine r_iald (n := 4) X h (hF.1 33 rfl).1 rfl (by decide) g_1 g_2 dX3_wideAt_15 ?_
  refine lv_iload_n X.1 X.2.1 dX3_wideAt_16 rfl (lv_at hl 3 rfl) ?_
  refine j_imul X dX3_wideAt_17 ?_
  refine j_isub X dX3_wideAt_18 ?_
  refine k_i h (r_S (As := [.int (iv 1), .int (iv (((10 + (7 * x2)) + x1) - ((σ 33 0 (Int.toNat x1)) * x3)))]) (rest := []) X h (c_J9_max_7cf53 l D ct ad L φ N0 σ 1 (((10 + (7 * x2)) + x1) - ((σ 33 0 (Int.toNat x1)) * x3)) _ hw) rfl rfl ⟨Nat.le_of_ble_eq_true rfl, Nat.le_of_ble_eq_true rfl⟩ kw_618 kw_619 kw_130 kw_620 pd_J9_max_7cf53 rfl hl.1 rfl (Nat.le_of_ble_eq_true rfl) ⟨Nat.le_of_ble_eq_true rfl, Nat.le_of_ble_eq_true rfl⟩ dX3_wideAt_19) (fun r_4 σ_3 H locs hw h => ?_)
  exact k_ir X rfl h hw dX3_wideAt_22
end
section
variable {p : Program} {l : Launch} {e : Env} {s : State} {m : MethodId} {args : Array Value} {below : List Frame} {meth : Method} {c : Code} {D : va_G} {ct : Nat → ClassId} {ad : Nat → Nat → Nat} {L : List (Nat × Nat)} {φ : Nat → Nat → Nat → Bool} {N0 : Nat}
variable {Q : St → Prop}
set_option maxRecDepth 100000 in
set_option maxHeartbeats 4000000 in
theorem lb_X0_weigh_111 (X : Cx p s m meth c args cX0_weigh 9 none RX0 D ct L φ N0) (σ : St) (x4 : Int) (H : Heap) (locs : List Loc) (ls : Array Slot) (hw : wp_X0_weigh_111 Q σ x4) (h : Hs D ct ad L φ N0 s.heap σ H locs) (hl : lv_has ls 9 [(0, .ref (ad 0 0)), (4, .int (iv x4))]) : W p l e ({ frames := 2, cells := 0, slots := 0, locals := 44 } : Room) s m args below meth c H locs 0 0 (MQ below (Qv D ct ad L φ N0 Q) args s 0 0 (AA N0)) (F0 m 111 ls []) := by
  have hF := X.2.2.2.2.2.2.2.2.1
  unfold wp_X0_weigh_111 at hw
  refine lv_aload_n X.1 X.2.1 dX0_weigh_111 rfl (lv_at hl 0 rfl) ?_
  refine r_getR (ci := 0) X inw_0 h (hF.1 0 rfl).1 rfl rfl 2 (by decide) kw_230 rfl ((hF.1 0 rfl).2 2) dX0_weigh_112 ?_
  refine lv_iload X.1 X.2.1 dX0_weigh_115 (lv_at hl 1 rfl) ?_
  obtain ⟨g_1, g_2, hw⟩ := hw
  refine r_iald (n := 11) X h (hF.1 22 rfl).1 rfl (by decide) g_1 g_2 dX0_weigh_117 ?_
  obtain ⟨g_3, hwt, hwf⟩ := hw
  refine j_if_ne (tgt := 129) X g_3 dX0_weigh_118 (by decide) (fun c_7 => ?_) (fun c_7 => ?_)
  · have hw := hwt c_7
    exact k_vr X h hw dX0_weigh_129
  · have hw := hwf c_7
    refine lv_aload_n X.1 X.2.1 dX0_weigh_121 rfl (lv_at hl 0 rfl) ?_
    refine r_getR (ci := 0) X inw_0 h (hF.1 0 rfl).1 rfl rfl 1 (by decide) kw_229 rfl ((hF.1 0 rfl).2 1) dX0_weigh_122 ?_
    refine lv_iload X.1 X.2.1 dX0_weigh_125 (lv_at hl 1 rfl) ?_
    refine j_iconst X dX0_weigh_127 ?_
    obtain ⟨g_4, g_5, hw⟩ := hw
    refine r_iast (n := 11) X h (hF.1 21 rfl).1 (fun _ => rfl) (by decide) g_4 g_5 rfl dX0_weigh_128 (fun H locs h => ?_)
    obtain ⟨σ_6, eσ_6⟩ : ∃ z : St, z = st σ 21 0 (Int.toNat x4) 0 := ⟨_, rfl⟩
    rw [← eσ_6] at h
    have hw := hw σ_6 eσ_6
    exact k_vr X h hw dX0_weigh_129
set_option maxRecDepth 100000 in
set_option maxHeartbeats 4000000 in
theorem lb_X0_weigh_105 (X : Cx p s m meth c args cX0_weigh 9 none RX0 D ct L φ N0) {K25 : St → Int → Int → Int → Int → Int → Prop} {K111 : St → Int → Prop} (hK25 : ∀ (σ : St) (x2 : Int) (x3 : Int) (x4 : Int) (x5 : Int) (x6 : Int) (H : Heap) (locs : List Loc) (ls : Array Slot), K25 σ x2 x3 x4 x5 x6 → Hs D ct ad L φ N0 s.heap σ H locs → lv_has ls 9 [(0, .ref (ad 0 0)), (1, .ref (ad 3 0)), (2, .int (iv x2)), (3, .int (iv x3)), (4, .int (iv x4)), (5, .int (iv x5)), (6, .int (iv x6))] → W p l e ({ frames := 2, cells := 0, slots := 0, locals := 44 } : Room) s m args below meth c H locs 0 0 (MQ below (Qv D ct ad L φ N0 Q) args s 0 0 (AA N0)) (F0 m 25 ls [])) (hK111 : ∀ (σ : St) (x4 : Int) (H : Heap) (locs : List Loc) (ls : Array Slot), K111 σ x4 → Hs D ct ad L φ N0 s.heap σ H locs → lv_has ls 9 [(0, .ref (ad 0 0)), (4, .int (iv x4))] → W p l e ({ frames := 2, cells := 0, slots := 0, locals := 44 } : Room) s m args below meth c H locs 0 0 (MQ below (Qv D ct ad L φ N0 Q) args s 0 0 (AA N0)) (F0 m 111 ls [])) (σ : St) (x2 : Int) (x3 : Int) (x4 : Int) (x5 : Int) (x6 : Int) (H : Heap) (locs : List Loc) (ls : Array Slot) (hw : wp_X0_weigh_105 K25 K111 Q σ x2 x3 x4 x5 x6) (h : Hs D ct ad L φ N0 s.heap σ H locs) (hl : lv_has ls 9 [(0, .ref (ad 0 0)), (1, .ref (ad 3 0)), (2, .int (iv x2)), (3, .int (iv x3)), (4, .int (iv x4)), (5, .int (iv x5)), (6, .int (iv x6))]) : W p l e ({ frames := 2, cells := 0, slots := 0, locals := 44 } : Room) s m args below meth c H locs 0 0 (MQ below (Qv D ct ad L φ N0 Q) args s 0 0 (AA N0)) (F0 m 105 ls []) := by
  have hF := X.2.2.2.2.2.2.2.2.1
  unfold wp_X0_weigh_105 at hw
  refine j_iinc (kk9 := 6) (lv' := [(6, .int (iv (x6 + 1))), (0, .ref (ad 0 0)), (1, .ref (ad 3 0)), (2, .int (iv x2)), (3, .int (iv x3)), (4, .int (iv x4)), (5, .int (iv x5))]) X dX0_weigh_105 hl rfl (by decide) rfl (fun ls hl => ?_)
  refine lv_goto (tgt := 25) X.1 X.2.1 dX0_weigh_108 (by decide) ?_
  exact hK25 σ x2 x3 x4 x5 (x6 + 1) _ _ _ hw h (lv_sub hl [1, 2, 3, 4, 5, 6, 0] rfl)
set_option maxRecDepth 100000 in
set_option maxHeartbeats 4000000 in
theorem lb_X0_weigh_25 (X : Cx p s m meth c args cX0_weigh 9 none RX0 D ct L φ N0) {K111 : St → Int → Prop} (hK111 : ∀ (σ : St) (x4 : Int) (H : Heap) (locs : List Loc) (ls : Array Slot), K111 σ x4 → Hs D ct ad L φ N0 s.heap σ H locs → lv_has ls 9 [(0, .ref (ad 0 0)), (4, .int (iv x4))] → W p l e ({ frames := 2, cells := 0, slots := 0, locals := 44 } : Room) s m args below meth c H locs 0 0 (MQ below (Qv D ct ad L φ N0 Q) args s 0 0 (AA N0)) (F0 m 111 ls [])) : ∀ (n : Nat) (σ : St) (x2 : Int) (x3 : Int) (x4 : Int) (x5 : Int) (x6 : Int) (H : Heap) (locs : List Loc) (ls : Array Slot), wp_X0_weigh_25 K111 Q n σ x2 x3 x4 x5 x6 → Hs D ct ad L φ N0 s.heap σ H locs → lv_has ls 9 [(0, .ref (ad 0 0)), (1, .ref (ad 3 0)), (2, .int (iv x2)), (3, .int (iv x3)), (4, .int (iv x4)), (5, .int (iv x5)), (6, .int (iv x6))] → W p l e ({ frames := 2, cells := 0, slots := 0, locals := 44 } : Room) s m args below meth c H locs 0 0 (MQ below (Qv D ct ad L φ N0 Q) args s 0 0 (AA N0)) (F0 m 25 ls []) := by
  have hF := X.2.2.2.2.2.2.2.2.1
  intro n
  induction n with
  | zero => intro σ x2 x3 x4 x5 x6 H locs ls hw; exact hw.elim
  | succ n ih =>
    intro σ x2 x3 x4 x5 x6 H locs ls hw h hl
    unfold wp_X0_weigh_25 at hw
    refine lv_iload X.1 X.2.1 dX0_weigh_25 (lv_at hl 6 rfl) ?_
    refine j_bipush X dX0_weigh_27 (by decide) ?_
    obtain ⟨g_8, hwt, hwf⟩ := hw
    refine j_cmp_gt (tgt := 111) X g_8 ⟨by decide, by decide⟩ dX0_weigh_29 (by decide) (fun c_31 => ?_) (fun c_31 => ?_)
    · have hw := hwt c_31
      exact hK111 σ x4 _ _ _ hw h (lv_sub hl [0, 4] rfl)
    · have hw := hwf c_31
      refine lv_iload X.1 X.2.1 dX0_weigh_32 (lv_at hl 4 rfl) ?_
      refine lv_iload X.1 X.2.1 dX0_weigh_34 (lv_at hl 6 rfl) ?_
      refine j_iadd X dX0_weigh_36 ?_
      refine lv_iload X.1 X.2.1 dX0_weigh_37 (lv_at hl 5 rfl) ?_
      obtain ⟨g_9, g_10, hwt, hwf⟩ := hw
      refine j_cmp_gt (tgt := 111) X g_9 g_10 dX0_weigh_39 (by decide) (fun c_30 => ?_) (fun c_30 => ?_)
      · have hw := hwt c_30
        exact hK111 σ x4 _ _ _ hw h (lv_sub hl [0, 4] rfl)
      · have hw := hwf c_30
        refine lv_iload X.1 X.2.1 dX0_weigh_42 (lv_at hl 4 rfl) ?_
        refine lv_iload X.1 X.2.1 dX0_weigh_44 (lv_at hl 6 rfl) ?_
        refine j_iadd X dX0_weigh_46 ?_
        refine j_bind (fun v_11 ev_11 => ?_)
        have hw := hw v_11 ev_11
        refine lv_istore (lv' := [(7, .int (iv v_11)), (0, .ref (ad 0 0)), (1, .ref (ad 3 0)), (2, .int (iv x2)), (3, .int (iv x3)), (4, .int (iv x4)), (5, .int (iv x5)), (6, .int (iv x6))]) X.1 X.2.1 dX0_weigh_47 hl (by decide) rfl (fun ls hl => ?_)
        refine lv_aload_n X.1 X.2.1 dX0_weigh_49 rfl (lv_at hl 1 rfl) ?_
        refine r_getR (ci := 0) X inw_0 h (hF.1 0 rfl).1 rfl rfl 0 (by decide) kw_227 rfl ((hF.1 0 rfl).2 0) dX0_weigh_50 ?_
        refine lv_iload X.1 X.2.1 dX0_weigh_53 (lv_at hl 7 rfl) ?_
        obtain ⟨g_12, g_13, hw⟩ := hw
        refine r_iald (n := 7) X h (hF.1 20 rfl).1 rfl (by decide) g_12 g_13 dX0_weigh_55 ?_
        refine lv_aload_n X.1 X.2.1 dX0_weigh_56 rfl (lv_at hl 2 rfl) ?_
        refine lv_iload_n X.1 X.2.1 dX0_weigh_57 rfl (lv_at hl 3 rfl) ?_
        refine lv_iload_n X.1 X.2.1 dX0_weigh_58 rfl (lv_at hl 4 rfl) ?_
        refine lv_iload X.1 X.2.1 dX0_weigh_59 (lv_at hl 0 rfl) ?_
        refine k_i h (r_V (C := RX3) (ci := 3) (As := [.int (iv x2), .int (iv x3), .int (iv v_11)]) (rest := [.int (iv (σ 20 0 (Int.toNat x6)))]) X h (c_X3_wideAt l D ct ad L φ N0 σ x2 x3 v_11 _ hw) rfl rfl ⟨Nat.le_of_ble_eq_true rfl, Nat.le_of_ble_eq_true rfl⟩ kw_614 kw_615 kw_616 kw_122 kw_617 ⟨rfl, pd_X3_wideAt⟩ (hF.1 3 rfl).1 rfl rfl rfl hl.1 rfl (Nat.le_of_ble_eq_true rfl) ⟨Nat.le_of_ble_eq_true rfl, Nat.le_of_ble_eq_true rfl⟩ dX0_weigh_61) (fun r_15 σ_14 H locs hw h => ?_)
        refine j_imul X dX0_weigh_64 ?_
        refine lv_aload_n X.1 X.2.1 dX0_weigh_65 rfl (lv_at hl 1 rfl) ?_
        refine r_getR (ci := 0) X inw_0 h (hF.1 0 rfl).1 rfl rfl 1 (by decide) kw_229 rfl ((hF.1 0 rfl).2 1) dX0_weigh_66 ?_
        refine lv_iload X.1 X.2.1 dX0_weigh_69 (lv_at hl 0 rfl) ?_
        obtain ⟨g_16, g_17, hw⟩ := hw
        refine r_iald (n := 11) X h (hF.1 21 rfl).1 rfl (by decide) g_16 g_17 dX0_weigh_71 ?_
        refine j_iadd X dX0_weigh_72 ?_
        refine j_bind (fun v_18 ev_18 => ?_)
        have hw := hw v_18 ev_18
        refine lv_istore (lv' := [(8, .int (iv v_18)), (7, .int (iv v_11)), (0, .ref (ad 0 0)), (1, .ref (ad 3 0)), (2, .int (iv x2)), (3, .int (iv x3)), (4, .int (iv x4)), (5, .int (iv x5)), (6, .int (iv x6))]) X.1 X.2.1 dX0_weigh_73 hl (by decide) rfl (fun ls hl => ?_)
        refine lv_iload X.1 X.2.1 dX0_weigh_75 (lv_at hl 0 rfl) ?_
        refine lv_aload_n X.1 X.2.1 dX0_weigh_77 rfl (lv_at hl 2 rfl) ?_
        refine r_getR (ci := 0) X inw_0 h (hF.1 0 rfl).1 rfl rfl 1 (by decide) kw_229 rfl ((hF.1 0 rfl).2 1) dX0_weigh_78 ?_
        refine lv_iload X.1 X.2.1 dX0_weigh_81 (lv_at hl 6 rfl) ?_
        obtain ⟨g_19, g_20, hw⟩ := hw
        refine r_iald (n := 11) X h (hF.1 21 rfl).1 rfl (by decide) g_19 g_20 dX0_weigh_83 ?_
        obtain ⟨g_21, g_22, hwt, hwf⟩ := hw
        refine j_cmp_le (tgt := 105) X g_21 g_22 dX0_weigh_84 (by decide) (fun c_29 => ?_) (fun c_29 => ?_)
        · have hw := hwt c_29
          exact lb_X0_weigh_105 X ih hK111 σ_14 x2 x3 x4 x5 x6 _ _ _ hw h (lv_sub hl [2, 3, 4, 5, 6, 7, 8] rfl)
        · have hw := hwf c_29
          refine lv_aload_n X.1 X.2.1 dX0_weigh_87 rfl (lv_at hl 2 rfl) ?_
          refine r_getR (ci := 0) X inw_0 h (hF.1 0 rfl).1 rfl rfl 1 (by decide) kw_229 rfl ((hF.1 0 rfl).2 1) dX0_weigh_88 ?_
          refine lv_iload X.1 X.2.1 dX0_weigh_91 (lv_at hl 6 rfl) ?_
          refine lv_iload X.1 X.2.1 dX0_weigh_93 (lv_at hl 0 rfl) ?_
          obtain ⟨g_23, g_24, hw⟩ := hw
          refine r_iast (n := 11) X h (hF.1 21 rfl).1 (fun _ => rfl) (by decide) g_23 g_24 rfl dX0_weigh_95 (fun H locs h => ?_)
          obtain ⟨σ_25, eσ_25⟩ : ∃ z : St, z = st σ_14 21 0 (Int.toNat x4) v_18 := ⟨_, rfl⟩
          rw [← eσ_25] at h
          have hw := hw σ_25 eσ_25
          refine lv_aload_n X.1 X.2.1 dX0_weigh_96 rfl (lv_at hl 2 rfl) ?_
          refine r_getR (ci := 0) X inw_0 h (hF.1 0 rfl).1 rfl rfl 2 (by decide) kw_230 rfl ((hF.1 0 rfl).2 2) dX0_weigh_97 ?_
          refine lv_iload X.1 X.2.1 dX0_weigh_100 (lv_at hl 6 rfl) ?_
          refine lv_iload X.1 X.2.1 dX0_weigh_102 (lv_at hl 8 rfl) ?_
          obtain ⟨g_26, g_27, hw⟩ := hw
          refine r_iast (n := 11) X h (hF.1 22 rfl).1 (fun _ => rfl) (by decide) g_26 g_27 rfl dX0_weigh_104 (fun H locs h => ?_)
          obtain ⟨σ_28, eσ_28⟩ : ∃ z : St, z = st σ_25 22 0 (Int.toNat x4) x6 := ⟨_, rfl⟩
          rw [← eσ_28] at h
          have hw := hw σ_28 eσ_28
          exact lb_X0_weigh_105 X ih hK111 σ_28 x2 x3 x4 x5 x6 _ _ _ hw h (lv_sub hl [2, 3, 4, 5, 6, 7, 8] rfl)
theorem pd_X0_weigh : yX0_weigh.cls ≠ "java/lang/invoke/MethodHandle" ∧ yX0_weigh.cls ≠ "java/lang/invoke/VarHandle" ∧ (parseMethodDescriptor yX0_weigh.desc).map (fun d => d.parameters.length) = some 4 := by decide +kernel
set_option maxRecDepth 100000 in
set_option maxHeartbeats 4000000 in
theorem c_X0_weigh (l : Launch) (D : va_G) (ct : Nat → ClassId) (ad : Nat → Nat → Nat) (L : List (Nat × Nat)) (φ : Nat → Nat → Nat → Bool) (N0 : Nat) (σ : St) (x2 : Int) (x3 : Int) (x4 : Int) (Q : St → Prop) (hw : wp_X0_weigh σ x2 x3 x4 Q) : Met l yX0_weigh (.code yX0_weigh cX0_weigh 9 none :: gw) ({ frames := 2, cells := 0, slots := 0, locals := 44 } : Room) (Pm D ct ad L φ N0 σ [.ref (ad 0 0), .ref (ad 3 0), .int (iv x2), .int (iv x3), .int (iv x4)]) (Qv D ct ad L φ N0 Q) 0 0 (AA N0) := by
  refine m_of (by decide) (fun p e s m below meth c X hnm h => ?_)
  have hF := X.2.2.2.2.2.2.2.2.1
  have hl := lv_entry ([.ref (ad 0 0), .ref (ad 3 0), .int (iv x2), .int (iv x3), .int (iv x4)]) (n := 9) (Nat.le_of_ble_eq_true rfl)
  rw [lg_entry_eq]
  generalize (lg_sl ([.ref (ad 0 0), .ref (ad 3 0), .int (iv x2), .int (iv x3), .int (iv x4)]) ++ List.replicate (9 - (lg_sl ([.ref (ad 0 0), .ref (ad 3 0), .int (iv x2), .int (iv x3), .int (iv x4)])).length) Slot.unset).toArray = ls at hl ⊢
  have hl : lv_has ls 9 [(0, .ref (ad 0 0)), (1, .ref (ad 3 0)), (2, .int (iv x2)), (3, .int (iv x3)), (4, .int (iv x4))] := hl
  have h : Hs D ct ad L φ N0 s.heap σ s.heap [] := h
  unfold wp_X0_weigh at hw
  refine lv_iload_n X.1 X.2.1 dX0_weigh_0 rfl (lv_at hl 3 rfl) ?_
  refine k_i h (r_S (As := [.int (iv x3)]) (rest := []) X h (c_X3_lengthOf l D ct ad L φ N0 σ x3 _ hw) rfl rfl ⟨Nat.le_of_ble_eq_true rfl, Nat.le_of_ble_eq_true rfl⟩ kw_607 kw_608 kw_122 kw_609 pd_X3_lengthOf rfl hl.1 rfl (Nat.le_of_ble_eq_true rfl) ⟨Nat.le_of_ble_eq_true rfl, Nat.le_of_ble_eq_true rfl⟩ dX0_weigh_1) (fun r_33 σ_32 H locs hw h => ?_)
  refine lv_istore (lv' := [(5, .int (iv r_33)), (0, .ref (ad 0 0)), (1, .ref (ad 3 0)), (2, .int (iv x2)), (3, .int (iv x3)), (4, .int (iv x4))]) X.1 X.2.1 dX0_weigh_4 hl (by decide) rfl (fun ls hl => ?_)
  refine lv_aload_n X.1 X.2.1 dX0_weigh_6 rfl (lv_at hl 1 rfl) ?_
  refine r_getR (ci := 0) X inw_0 h (hF.1 0 rfl).1 rfl rfl 1 (by decide) kw_229 rfl ((hF.1 0 rfl).2 1) dX0_weigh_7 ?_
  refine lv_iload X.1 X.2.1 dX0_weigh_10 (lv_at hl 5 rfl) ?_
  refine j_iconst X dX0_weigh_12 ?_
  obtain ⟨g_34, g_35, hw⟩ := hw
  refine r_iast (n := 11) X h (hF.1 21 rfl).1 (fun _ => rfl) (by decide) g_34 g_35 rfl dX0_weigh_13 (fun H locs h => ?_)
  obtain ⟨σ_36, eσ_36⟩ : ∃ z : St, z = st σ_32 21 0 (Int.toNat x4) (-1) := ⟨_, rfl⟩
  rw [← eσ_36] at h
  have hw := hw σ_36 eσ_36
  refine lv_aload_n X.1 X.2.1 dX0_weigh_14 rfl (lv_at hl 1 rfl) ?_
  refine r_getR (ci := 0) X inw_0 h (hF.1 0 rfl).1 rfl rfl 2 (by decide) kw_230 rfl ((hF.1 0 rfl).2 2) dX0_weigh_15 ?_
  refine lv_iload X.1 X.2.1 dX0_weigh_18 (lv_at hl 5 rfl) ?_
  refine j_iconst X dX0_weigh_20 ?_
  obtain ⟨g_37, g_38, hw⟩ := hw
  refine r_iast (n := 11) X h (hF.1 22 rfl).1 (fun _ => rfl) (by decide) g_37 g_38 rfl dX0_weigh_21 (fun H locs h => ?_)
  obtain ⟨σ_39, eσ_39⟩ : ∃ z : St, z = st σ_36 22 0 (Int.toNat x4) 0 := ⟨_, rfl⟩
  rw [← eσ_39] at h
  have hw := hw σ_39 eσ_39
  refine j_iconst X dX0_weigh_22 ?_
  refine lv_istore (lv' := [(6, .int (iv 2)), (5, .int (iv r_33)), (0, .ref (ad 0 0)), (1, .ref (ad 3 0)), (2, .int (iv x2)), (3, .int (iv x3)), (4, .int (iv x4))]) X.1 X.2.1 dX0_weigh_23 hl (by decide) rfl (fun ls hl => ?_)
  exact hw.elim (fun n25 hw => lb_X0_weigh_25 X (lb_X0_weigh_111 X) n25 σ_39 x2 x3 x4 r_33 2 _ _ _ hw h (lv_sub hl [2, 3, 4, 5, 6, 1, 0] rfl))
end
section
variable {p : Program} {l : Launch} {e : Env} {s : State} {m : MethodId} {args : Array Value} {below : List Frame} {meth : Method} {c : Code} {D : va_G} {ct : Nat → ClassId} {ad : Nat → Nat → Nat} {L : List (Nat × Nat)} {φ : Nat → Nat → Nat → Bool} {N0 : Nat}
variable {Q : Int → St → Prop}
set_option maxRecDepth 100000 in
set_option maxHeartbeats 4000000 in
theorem lb_X0_chooseBest_99 (X : Cx p s m meth c args cX0_chooseBest 7 (some .int) RX0 D ct L φ N0) (σ : St) (H : Heap) (locs : List Loc) (ls : Array Slot) (hw : wp_X0_chooseBest_99 Q σ) (h : Hs D ct ad L φ N0 s.heap σ H locs) (hl : lv_has ls 7 [(0, .ref (ad 0 0))]) : W p l e ({ frames := 3, cells := 0, slots := 0, locals := 72 } : Room) s m args below meth c H locs 0 0 (MQ below (Qi D ct ad L φ N0 Q) args s 0 0 (AA N0)) (F0 m 99 ls []) := by
  have hF := X.2.2.2.2.2.2.2.2.1
  unfold wp_X0_chooseBest_99 at hw
  refine lv_aload_n X.1 X.2.1 dX0_chooseBest_99 rfl (lv_at hl 0 rfl) ?_
  refine r_getR (ci := 0) X inw_0 h (hF.1 0 rfl).1 rfl rfl 1 (by decide) kw_229 rfl ((hF.1 0 rfl).2 1) dX0_chooseBest_100 ?_
  refine j_iconst X dX0_chooseBest_103 ?_
  refine r_iald (n := 11) X h (hF.1 21 rfl).1 rfl (by decide) (by decide) (by decide) dX0_chooseBest_104 ?_
  exact k_ir X rfl h hw dX0_chooseBest_105
set_option maxRecDepth 100000 in
set_option maxHeartbeats 4000000 in
theorem lb_X0_chooseBest_41 (X : Cx p s m meth c args cX0_chooseBest 7 (some .int) RX0 D ct L φ N0) {K99 : St → Prop} (hK99 : ∀ (σ : St) (H : Heap) (locs : List Loc) (ls : Array Slot), K99 σ → Hs D ct ad L φ N0 s.heap σ H locs → lv_has ls 7 [(0, .ref (ad 0 0))] → W p l e ({ frames := 3, cells := 0, slots := 0, locals := 72 } : Room) s m args below meth c H locs 0 0 (MQ below (Qi D ct ad L φ N0 Q) args s 0 0 (AA N0)) (F0 m 99 ls [])) : ∀ (n : Nat) (σ : St) (x5 : Int) (x6 : Int) (H : Heap) (locs : List Loc) (ls : Array Slot), wp_X0_chooseBest_41 K99 Q n σ x5 x6 → Hs D ct ad L φ N0 s.heap σ H locs → lv_has ls 7 [(0, .ref (ad 0 0)), (5, .int (iv x5)), (6, .int (iv x6))] → W p l e ({ frames := 3, cells := 0, slots := 0, locals := 72 } : Room) s m args below meth c H locs 0 0 (MQ below (Qi D ct ad L φ N0 Q) args s 0 0 (AA N0)) (F0 m 41 ls []) := by
  have hF := X.2.2.2.2.2.2.2.2.1
  intro n
  induction n with
  | zero => intro σ x5 x6 H locs ls hw; exact hw.elim
  | succ n ih =>
    intro σ x5 x6 H locs ls hw h hl
    unfold wp_X0_chooseBest_41 at hw
    refine lv_iload X.1 X.2.1 dX0_chooseBest_41 (lv_at hl 2 rfl) ?_
    refine j_iconst X dX0_chooseBest_43 ?_
    obtain ⟨g_1, hwt, hwf⟩ := hw
    refine j_cmp_ge (tgt := 99) X g_1 ⟨by decide, by decide⟩ dX0_chooseBest_44 (by decide) (fun c_15 => ?_) (fun c_15 => ?_)
    · have hw := hwt c_15
      exact hK99 σ _ _ _ hw h (lv_sub hl [0] rfl)
    · have hw := hwf c_15
      refine lv_aload_n X.1 X.2.1 dX0_chooseBest_47 rfl (lv_at hl 0 rfl) ?_
      refine r_getR (ci := 0) X inw_0 h (hF.1 0 rfl).1 rfl rfl 2 (by decide) kw_230 rfl ((hF.1 0 rfl).2 2) dX0_chooseBest_48 ?_
      refine lv_iload X.1 X.2.1 dX0_chooseBest_51 (lv_at hl 1 rfl) ?_
      obtain ⟨g_2, g_3, hw⟩ := hw
      refine r_iald (n := 11) X h (hF.1 22 rfl).1 rfl (by decide) g_2 g_3 dX0_chooseBest_53 ?_
      obtain ⟨g_4, hwt, hwf⟩ := hw
      refine j_if_le (tgt := 99) X g_4 dX0_chooseBest_54 (by decide) (fun c_14 => ?_) (fun c_14 => ?_)
      · have hw := hwt c_14
        exact hK99 σ _ _ _ hw h (lv_sub hl [0] rfl)
      · have hw := hwf c_14
        refine lv_aload_n X.1 X.2.1 dX0_chooseBest_57 rfl (lv_at hl 0 rfl) ?_
        refine r_getR (ci := 0) X inw_0 h (hF.1 0 rfl).1 rfl rfl 3 (by decide) kw_231 rfl ((hF.1 0 rfl).2 3) dX0_chooseBest_58 ?_
        refine lv_iload X.1 X.2.1 dX0_chooseBest_61 (lv_at hl 2 rfl) ?_
        refine lv_aload_n X.1 X.2.1 dX0_chooseBest_63 rfl (lv_at hl 0 rfl) ?_
        refine r_getR (ci := 0) X inw_0 h (hF.1 0 rfl).1 rfl rfl 2 (by decide) kw_230 rfl ((hF.1 0 rfl).2 2) dX0_chooseBest_64 ?_
        refine lv_iload X.1 X.2.1 dX0_chooseBest_67 (lv_at hl 1 rfl) ?_
        obtain ⟨g_5, g_6, hw⟩ := hw
        refine r_iald (n := 11) X h (hF.1 22 rfl).1 rfl (by decide) g_5 g_6 dX0_chooseBest_69 ?_
        obtain ⟨g_7, g_8, hw⟩ := hw
        refine r_iast (n := 5) X h (hF.1 23 rfl).1 (fun _ => rfl) (by decide) g_7 g_8 rfl dX0_chooseBest_70 (fun H locs h => ?_)
        obtain ⟨σ_9, eσ_9⟩ : ∃ z : St, z = st σ 23 0 (Int.toNat x6) (σ 22 0 (Int.toNat x5)) := ⟨_, rfl⟩
        rw [← eσ_9] at h
        have hw := hw σ_9 eσ_9
        refine lv_iload X.1 X.2.1 dX0_chooseBest_71 (lv_at hl 1 rfl) ?_
        refine lv_aload_n X.1 X.2.1 dX0_chooseBest_73 rfl (lv_at hl 0 rfl) ?_
        refine r_getR (ci := 0) X inw_0 h (hF.1 0 rfl).1 rfl rfl 2 (by decide) kw_230 rfl ((hF.1 0 rfl).2 2) dX0_chooseBest_74 ?_
        refine lv_iload X.1 X.2.1 dX0_chooseBest_77 (lv_at hl 1 rfl) ?_
        obtain ⟨g_10, g_11, hw⟩ := hw
        refine r_iald (n := 11) X h (hF.1 22 rfl).1 rfl (by decide) g_10 g_11 dX0_chooseBest_79 ?_
        refine j_iadd X dX0_chooseBest_80 ?_
        refine j_bind (fun v_12 ev_12 => ?_)
        have hw := hw v_12 ev_12
        refine lv_istore (lv' := [(5, .int (iv v_12)), (0, .ref (ad 0 0)), (6, .int (iv x6))]) X.1 X.2.1 dX0_chooseBest_81 hl (by decide) rfl (fun ls hl => ?_)
        refine lv_aload_n X.1 X.2.1 dX0_chooseBest_83 rfl (lv_at hl 1 rfl) ?_
        refine lv_dup X.1 X.2.1 dX0_chooseBest_84 rfl ?_
        refine r_get (ci := 0) X inw_0 h (hF.1 0 rfl).1 rfl rfl 4 (by decide) kw_233 rfl dX0_chooseBest_85 ?_
        refine j_iconst X dX0_chooseBest_88 ?_
        refine j_iadd X dX0_chooseBest_89 ?_
        refine r_put (ci := 0) X inw_0 tyX0 tyX0_ok nmX0 h (hF.1 0 rfl).1 rfl rfl 4 (by decide) kw_233 rfl rfl rfl (Nat.le_of_ble_eq_true rfl) rfl rfl dX0_chooseBest_90 (fun H locs h => ?_)
        obtain ⟨σ_13, eσ_13⟩ : ∃ z : St, z = st σ_9 0 0 4 ((σ_9 0 0 4) + 1) := ⟨_, rfl⟩
        rw [← eσ_13] at h
        have hw := hw σ_13 eσ_13
        refine j_iinc (kk9 := 2) (lv' := [(6, .int (iv (x6 + 1))), (5, .int (iv v_12)), (0, .ref (ad 0 0))]) X dX0_chooseBest_93 hl rfl (by decide) rfl (fun ls hl => ?_)
        refine lv_goto (tgt := 41) X.1 X.2.1 dX0_chooseBest_96 (by decide) ?_
        exact ih σ_13 v_12 (x6 + 1) _ _ _ hw h (lv_sub hl [2, 1, 0] rfl)
set_option maxRecDepth 100000 in
set_option maxHeartbeats 4000000 in
theorem lb_X0_chooseBest_30 (X : Cx p s m meth c args cX0_chooseBest 7 (some .int) RX0 D ct L φ N0) (σ : St) (H : Heap) (locs : List Loc) (ls : Array Slot) (hw : wp_X0_chooseBest_30 Q σ) (h : Hs D ct ad L φ N0 s.heap σ H locs) (hl : lv_has ls 7 [(0, .ref (ad 0 0))]) : W p l e ({ frames := 3, cells := 0, slots := 0, locals := 72 } : Room) s m args below meth c H locs 0 0 (MQ below (Qi D ct ad L φ N0 Q) args s 0 0 (AA N0)) (F0 m 30 ls []) := by
  have hF := X.2.2.2.2.2.2.2.2.1
  unfold wp_X0_chooseBest_30 at hw
  refine lv_aload_n X.1 X.2.1 dX0_chooseBest_30 rfl (lv_at hl 0 rfl) ?_
  refine j_iconst X dX0_chooseBest_31 ?_
  refine r_put (ci := 0) X inw_0 tyX0 tyX0_ok nmX0 h (hF.1 0 rfl).1 rfl rfl 4 (by decide) kw_233 rfl rfl rfl (Nat.le_of_ble_eq_true rfl) rfl rfl dX0_chooseBest_32 (fun H locs h => ?_)
  obtain ⟨σ_16, eσ_16⟩ : ∃ z : St, z = st σ 0 0 4 0 := ⟨_, rfl⟩
  rw [← eσ_16] at h
  have hw := hw σ_16 eσ_16
  refine j_iconst X dX0_chooseBest_35 ?_
  refine lv_istore (lv' := [(5, .int (iv 0)), (0, .ref (ad 0 0))]) X.1 X.2.1 dX0_chooseBest_36 hl (by decide) rfl (fun ls hl => ?_)
  refine j_iconst X dX0_chooseBest_38 ?_
  refine lv_istore (lv' := [(6, .int (iv 0)), (5, .int (iv 0)), (0, .ref (ad 0 0))]) X.1 X.2.1 dX0_chooseBest_39 hl (by decide) rfl (fun ls hl => ?_)
  exact hw.elim (fun n41 hw => lb_X0_chooseBest_41 X (lb_X0_chooseBest_99 X) n41 σ_16 0 0 _ _ _ hw h (lv_sub hl [2, 1, 0] rfl))
set_option maxRecDepth 100000 in
set_option maxHeartbeats 4000000 in
theorem lb_X0_chooseBest_10 (X : Cx p s m meth c args cX0_chooseBest 7 (some .int) RX0 D ct L φ N0) {K30 : St → Prop} (hK30 : ∀ (σ : St) (H : Heap) (locs : List Loc) (ls : Array Slot), K30 σ → Hs D ct ad L φ N0 s.heap σ H locs → lv_has ls 7 [(0, .ref (ad 0 0))] → W p l e ({ frames := 3, cells := 0, slots := 0, locals := 72 } : Room) s m args below meth c H locs 0 0 (MQ below (Qi D ct ad L φ N0 Q) args s 0 0 (AA N0)) (F0 m 30 ls [])) : ∀ (n : Nat) (σ : St) (x2 : Int) (x3 : Int) (x5 : Int) (H : Heap) (locs : List Loc) (ls : Array Slot), wp_X0_chooseBest_10 K30 Q n σ x2 x3 x5 → Hs D ct ad L φ N0 s.heap σ H locs → lv_has ls 7 [(0, .ref (ad 0 0)), (1, .ref (ad 3 0)), (2, .int (iv x2)), (3, .int (iv x3)), (5, .int (iv x5))] → W p l e ({ frames := 3, cells := 0, slots := 0, locals := 72 } : Room) s m args below meth c H locs 0 0 (MQ below (Qi D ct ad L φ N0 Q) args s 0 0 (AA N0)) (F0 m 10 ls []) := by
  have hF := X.2.2.2.2.2.2.2.2.1
  intro n
  induction n with
  | zero => intro σ x2 x3 x5 H locs ls hw; exact hw.elim
  | succ n ih =>
    intro σ x2 x3 x5 H locs ls hw h hl
    unfold wp_X0_chooseBest_10 at hw
    refine lv_iload X.1 X.2.1 dX0_chooseBest_10 (lv_at hl 4 rfl) ?_
    obtain ⟨g_17, hwt, hwf⟩ := hw
    refine j_if_lt (tgt := 30) X g_17 dX0_chooseBest_12 (by decide) (fun c_19 => ?_) (fun c_19 => ?_)
    · have hw := hwt c_19
      exact hK30 σ _ _ _ hw h (lv_sub hl [0] rfl)
    · have hw := hwf c_19
      refine lv_aload_n X.1 X.2.1 dX0_chooseBest_15 rfl (lv_at hl 0 rfl) ?_
      refine lv_aload_n X.1 X.2.1 dX0_chooseBest_16 rfl (lv_at hl 1 rfl) ?_
      refine lv_iload_n X.1 X.2.1 dX0_chooseBest_17 rfl (lv_at hl 2 rfl) ?_
      refine lv_iload_n X.1 X.2.1 dX0_chooseBest_18 rfl (lv_at hl 3 rfl) ?_
      refine lv_iload X.1 X.2.1 dX0_chooseBest_19 (lv_at hl 4 rfl) ?_
      refine k_v h (r_V (C := RX0) (ci := 0) (As := [.ref (ad 3 0), .int (iv x2), .int (iv x3), .int (iv x5)]) (rest := []) X h (c_X0_weigh l D ct ad L φ N0 σ x2 x3 x5 _ hw) rfl rfl ⟨Nat.le_of_ble_eq_true rfl, Nat.le_of_ble_eq_true rfl⟩ kw_610 kw_612 kw_2 kw_123 kw_613 ⟨rfl, pd_X0_weigh⟩ (hF.1 0 rfl).1 rfl rfl rfl hl.1 rfl (Nat.le_of_ble_eq_true rfl) ⟨Nat.le_of_ble_eq_true rfl, Nat.le_of_ble_eq_true rfl⟩ dX0_chooseBest_21) (fun σ_18 H locs hw h => ?_)
      refine j_iinc (kk9 := 4) (lv' := [(5, .int (iv (x5 + (-1)))), (0, .ref (ad 0 0)), (1, .ref (ad 3 0)), (2, .int (iv x2)), (3, .int (iv x3))]) X dX0_chooseBest_24 hl rfl (by decide) rfl (fun ls hl => ?_)
      refine lv_goto (tgt := 10) X.1 X.2.1 dX0_chooseBest_27 (by decide) ?_
      exact ih σ_18 x2 x3 (x5 + (-1)) _ _ _ hw h (lv_sub hl [1, 2, 3, 4, 0] rfl)
theorem pd_X0_chooseBest : yX0_chooseBest.cls ≠ "java/lang/invoke/MethodHandle" ∧ yX0_chooseBest.cls ≠ "java/lang/invoke/VarHandle" ∧ (parseMethodDescriptor yX0_chooseBest.desc).map (fun d => d.parameters.length) = some 3 := by decide +kernel
set_option maxRecDepth 100000 in
set_option maxHeartbeats 4000000 in
theorem c_X0_chooseBest (l : Launch) (D : va_G) (ct : Nat → ClassId) (ad : Nat → Nat → Nat) (L : List (Nat × Nat)) (φ : Nat → Nat → Nat → Bool) (N0 : Nat) (σ : St) (x2 : Int) (x3 : Int) (Q : Int → St → Prop) (hw : wp_X0_chooseBest σ x2 x3 Q) : Met l yX0_chooseBest (.code yX0_chooseBest cX0_chooseBest 7 (some .int) :: gw) ({ frames := 3, cells := 0, slots := 0, locals := 72 } : Room) (Pm D ct ad L φ N0 σ [.ref (ad 0 0), .ref (ad 3 0), .int (iv x2), .int (iv x3)]) (Qi D ct ad L φ N0 Q) 0 0 (AA N0) := by
  refine m_of (by decide) (fun p e s m below meth c X hnm h => ?_)
  have hF := X.2.2.2.2.2.2.2.2.1
  have hl := lv_entry ([.ref (ad 0 0), .ref (ad 3 0), .int (iv x2), .int (iv x3)]) (n := 7) (Nat.le_of_ble_eq_true rfl)
  rw [lg_entry_eq]
  generalize (lg_sl ([.ref (ad 0 0), .ref (ad 3 0), .int (iv x2), .int (iv x3)]) ++ List.replicate (7 - (lg_sl ([.ref (ad 0 0), .ref (ad 3 0), .int (iv x2), .int (iv x3)])).length) Slot.unset).toArray = ls at hl ⊢
  have hl : lv_has ls 7 [(0, .ref (ad 0 0)), (1, .ref (ad 3 0)), (2, .int (iv x2)), (3, .int (iv x3))] := hl
  have h : Hs D ct ad L φ N0 s.heap σ s.heap [] := h
  unfold wp_X0_chooseBest at hw
  refine lv_iload_n X.1 X.2.1 dX0_chooseBest_0 rfl (lv_at hl 3 rfl) ?_
  refine k_i h (r_S (As := [.int (iv x3)]) (rest := []) X h (c_X3_lengthOf l D ct ad L φ N0 σ x3 _ hw) rfl rfl ⟨Nat.le_of_ble_eq_true rfl, Nat.le_of_ble_eq_true rfl⟩ kw_607 kw_608 kw_122 kw_609 pd_X3_lengthOf rfl hl.1 rfl (Nat.le_of_ble_eq_true rfl) ⟨Nat.le_of_ble_eq_true rfl, Nat.le_of_ble_eq_true rfl⟩ dX0_chooseBest_1) (fun r_21 σ_20 H locs hw h => ?_)
  refine lv_istore (lv' := [(4, .int (iv r_21)), (0, .ref (ad 0 0)), (1, .ref (ad 3 0)), (2, .int (iv x2)), (3, .int (iv x3))]) X.1 X.2.1 dX0_chooseBest_4 hl (by decide) rfl (fun ls hl => ?_)
  refine lv_iload X.1 X.2.1 dX0_chooseBest_6 (lv_at hl 0 rfl) ?_
  refine lv_istore (lv' := [(5, .int (iv r_21)), (4, .int (iv r_21)), (0, .ref (ad 0 0)), (1, .ref (ad 3 0)), (2, .int (iv x2)), (3, .int (iv x3))]) X.1 X.2.1 dX0_chooseBest_8 hl (by decide) rfl (fun ls hl => ?_)
  exact hw.elim (fun n10 hw => lb_X0_chooseBest_10 X (lb_X0_chooseBest_30 X) n10 σ_20 x2 x3 r_21 _ _ _ hw h (lv_sub hl [2, 3, 4, 5, 0] rfl))
end
section
variable {p : Program} {l : Launch} {e : Env} {s : State} {m : MethodId} {args : Array Value} {below : List Frame} {meth : Method} {c : Code} {D : va_G} {ct : Nat → ClassId} {ad : Nat → Nat → Nat} {L : List (Nat × Nat)} {φ : Nat → Nat → Nat → Bool} {N0 : Nat}
variable {Q : Int → St → Prop}
set_option maxRecDepth 100000 in
set_option maxHeartbeats 4000000 in
theorem lb_X0_figuresOf_4 (X : Cx p s m meth c args cX0_figuresOf 3 (some .int) RX0 D ct L φ N0) : ∀ (n : Nat) (σ : St) (x1 : Int) (x2 : Int) (H : Heap) (locs : List Loc) (ls : Array Slot), wp_X0_figuresOf_4 Q n σ x1 x2 → Hs D ct ad L φ N0 s.heap σ H locs → lv_has ls 3 [(1, .int (iv x1)), (2, .int (iv x2))] → W p l e ({ frames := 0, cells := 0, slots := 0, locals := 0 } : Room) s m args below meth c H locs 0 0 (MQ below (Qi D ct ad L φ N0 Q) args s 0 0 (AA N0)) (F0 m 4 ls []) := by
  have hF := X.2.2.2.2.2.2.2.2.1
  intro n
  induction n with
  | zero => intro σ x1 x2 H locs ls hw; exact hw.elim
  | succ n ih =>
    intro σ x1 x2 H locs ls hw h hl
    unfold wp_X0_figuresOf_4 at hw
    refine lv_iload_n X.1 X.2.1 dX0_figuresOf_4 rfl (lv_at hl 1 rfl) ?_
    obtain ⟨g_1, hwt, hwf⟩ := hw
    refine j_if_le (tgt := 24) X g_1 dX0_figuresOf_5 (by decide) (fun c_6 => ?_) (fun c_6 => ?_)
    · have hw := hwt c_6
      refine lv_iload_n X.1 X.2.1 dX0_figuresOf_24 rfl (lv_at hl 0 rfl) ?_
      exact k_ir X rfl h hw dX0_figuresOf_25
    · have hw := hwf c_6
      refine lv_iload_n X.1 X.2.1 dX0_figuresOf_8 rfl (lv_at hl 0 rfl) ?_
      refine j_iconst X dX0_figuresOf_9 ?_
      obtain ⟨g_2, hwt, hwf⟩ := hw
      refine j_cmp_gt (tgt := 24) X g_2 ⟨by decide, by decide⟩ dX0_figuresOf_10 (by decide) (fun c_5 => ?_) (fun c_5 => ?_)
      · have hw := hwt c_5
        refine lv_iload_n X.1 X.2.1 dX0_figuresOf_24 rfl (lv_at hl 0 rfl) ?_
        exact k_ir X rfl h hw dX0_figuresOf_25
      · have hw := hwf c_5
        refine lv_iload_n X.1 X.2.1 dX0_figuresOf_13 rfl (lv_at hl 1 rfl) ?_
        refine j_bipush X dX0_figuresOf_14 (by decide) ?_
        obtain ⟨g_3, hw⟩ := hw
        refine j_idiv X g_3 ⟨by decide, by decide⟩ (by decide) (by decide) dX0_figuresOf_16 ?_
        refine j_bind (fun v_4 ev_4 => ?_)
        have hw := hw v_4 ev_4
        refine lv_istore_n (lv' := [(2, .int (iv v_4)), (1, .int (iv x1))]) X.1 X.2.1 dX0_figuresOf_17 rfl hl (by decide) rfl (fun ls hl => ?_)
        refine j_iinc (kk9 := 1) (lv' := [(1, .int (iv (x1 + 1))), (2, .int (iv v_4))]) X dX0_figuresOf_18 hl rfl (by decide) rfl (fun ls hl => ?_)
        refine lv_goto (tgt := 4) X.1 X.2.1 dX0_figuresOf_21 (by decide) ?_
        exact ih σ (x1 + 1) v_4 _ _ _ hw h (lv_sub hl [0, 1] rfl)
theorem pd_X0_figuresOf : yX0_figuresOf.cls ≠ "java/lang/invoke/MethodHandle" ∧ yX0_figuresOf.cls ≠ "java/lang/invoke/VarHandle" ∧ (parseMethodDescriptor yX0_figuresOf.desc).map (fun d => d.parameters.length) = some 1 := by decide +kernel
set_option maxRecDepth 100000 in
set_option maxHeartbeats 4000000 in
theorem c_X0_figuresOf (l : Launch) (D : va_G) (ct : Nat → ClassId) (ad : Nat → Nat → Nat) (L : List (Nat × Nat)) (φ : Nat → Nat → Nat → Bool) (N0 : Nat) (σ : St) (x0 : Int) (Q : Int → St → Prop) (hw : wp_X0_figuresOf σ x0 Q) : Met l yX0_figuresOf (.code yX0_figuresOf cX0_figuresOf 3 (some .int) :: gw) ({ frames := 0, cells := 0, slots := 0, locals := 0 } : Room) (Pm D ct ad L φ N0 σ [.int (iv x0)]) (Qi D ct ad L φ N0 Q) 0 0 (AA N0) := by
  refine m_of (by decide) (fun p e s m below meth c X hnm h => ?_)
  have hF := X.2.2.2.2.2.2.2.2.1
  have hl := lv_entry ([.int (iv x0)]) (n := 3) (Nat.le_of_ble_eq_true rfl)
  rw [lg_entry_eq]
  generalize (lg_sl ([.int (iv x0)]) ++ List.replicate (3 - (lg_sl ([.int (iv x0)])).length) Slot.unset).toArray = ls at hl ⊢
  have hl : lv_has ls 3 [(0, .int (iv x0))] := hl
  have h : Hs D ct ad L φ N0 s.heap σ s.heap [] := h
  unfold wp_X0_figuresOf at hw
  refine j_iconst X dX0_figuresOf_0 ?_
  refine lv_istore_n (lv' := [(1, .int (iv 0)), (0, .int (iv x0))]) X.1 X.2.1 dX0_figuresOf_1 rfl hl (by decide) rfl (fun ls hl => ?_)
  refine lv_iload_n X.1 X.2.1 dX0_figuresOf_2 rfl (lv_at hl 1 rfl) ?_
  refine lv_istore_n (lv' := [(2, .int (iv x0)), (1, .int (iv 0)), (0, .int (iv x0))]) X.1 X.2.1 dX0_figuresOf_3 rfl hl (by decide) rfl (fun ls hl => ?_)
  exact hw.elim (fun n4 hw => lb_X0_figuresOf_4 X n4 σ 0 x0 _ _ _ hw h (lv_sub hl [1, 0] rfl))
end
section
variable {p : Program} {l : Launch} {e : Env} {s : State} {m : MethodId} {args : Array Value} {below : List Frame} {meth : Method} {c : Code} {D : va_G} {ct : Nat → ClassId} {ad : Nat → Nat → Nat} {L : List (Nat × Nat)} {φ : Nat → Nat → Nat → Bool} {N0 : Nat}
variable {Q : Int → St → Prop}
theorem pd_X11_within : yX11_within.cls ≠ "java/lang/invoke/MethodHandle" ∧ yX11_within.cls ≠ "java/lang/invoke/VarHandle" ∧ (parseMethodDescriptor yX11_within.desc).map (fun d => d.parameters.length) = some 3 := by decide +kernel
set_option maxRecDepth 100000 in
set_option maxHeartbeats 4000000 in
theorem c_X11_within (l : Launch) (D : va_G) (ct : Nat → ClassId) (ad : Nat → Nat → Nat) (L : List (Nat × Nat)) (φ : Nat → Nat → Nat → Bool) (N0 : Nat) (σ : St) (x0 : Int) (x1 : Int) (x2 : Int) (Q : Int → St → Prop) (hw : wp_X11_within σ x0 x1 x2 Q) : Met l yX11_within (.code yX11_within cX11_within 3 (some .boolean) :: gw) ({ frames := 0, cells := 0, slots := 0, locals := 0 } : Room) (Pm D ct ad L φ N0 σ [.int (iv x0), .int (iv x1), .int (iv x2)]) (Qi D ct ad L φ N0 Q) 0 0 (AA N0) := by
  refine m_of (by decide) (fun p e s m below meth c X hnm h => ?_)
  have hF := X.2.2.2.2.2.2.2.2.1
  have hl := lv_entry ([.int (iv x0), .int (iv x1), .int (iv x2)]) (n := 3) (Nat.le_of_ble_eq_true rfl)
  rw [lg_entry_eq]
  generalize (lg_sl ([.int (iv x0), .int (iv x1), .int (iv x2)]) ++ List.replicate (3 - (lg_sl ([.int (iv x0), .int (iv x1), .int (iv x2)])).length) Slot.unset).toArray = ls at hl ⊢
  have hl : lv_has ls 3 [(0, .int (iv x0)), (1, .int (iv x1)), (2, .int (iv x2))] := hl
  have h : Hs D ct ad L φ N0 s.heap σ s.heap [] := h
  unfold wp_X11_within at hw
  refine lv_iload_n X.1 X.2.1 dX11_within_0 rfl (lv_at hl 0 rfl) ?_
  refine lv_iload_n X.1 X.2.1 dX11_within_1 rfl (lv_at hl 1 rfl) ?_
  obtain ⟨g_1, g_2, hwt, hwf⟩ := hw
  refine j_cmp_lt (tgt := 14) X g_1 g_2 dX11_within_2 (by decide) (fun c_6 => ?_) (fun c_6 => ?_)
  · have hw := hwt c_6
    refine j_iconst X dX11_within_14 ?_
    exact k_ir X rfl h hw dX11_within_15
  · have hw := hwf c_6
    refine lv_iload_n X.1 X.2.1 dX11_within_5 rfl (lv_at hl 0 rfl) ?_
    refine lv_iload_n X.1 X.2.1 dX11_within_6 rfl (lv_at hl 2 rfl) ?_
    obtain ⟨g_3, g_4, hwt, hwf⟩ := hw
    refine j_cmp_gt (tgt := 14) X g_3 g_4 dX11_within_7 (by decide) (fun c_5 => ?_) (fun c_5 => ?_)
    · have hw := hwt c_5
      refine j_iconst X dX11_within_14 ?_
      exact k_ir X rfl h hw dX11_within_15
    · have hw := hwf c_5
      refine j_iconst X dX11_within_10 ?_
      refine lv_goto (tgt := 15) X.1 X.2.1 dX11_within_11 (by decide) ?_
      exact k_ir X rfl h hw dX11_within_15
end
section
variable {p : Program} {l : Launch} {e : Env} {s : State} {m : MethodId} {args : Array Value} {below : List Frame} {meth : Method} {c : Code} {D : va_G} {ct : Nat → ClassId} {ad : Nat → Nat → Nat} {L : List (Nat × Nat)} {φ : Nat → Nat → Nat → Bool} {N0 : Nat}
variable {Q : Int → St → Prop}
set_option maxRecDepth 100000 in
set_option maxHeartbeats 4000000 in
theorem lb_X0_takeFigures_73 (X : Cx p s m meth c args cX0_takeFigures 6 (some .boolean) RX0 D ct L φ N0) (σ : St) (x2 : Int) (H : Heap) (locs : List Loc) (ls : Array Slot) (hw : wp_X0_takeFigures_73 Q σ x2) (h : Hs D ct ad L φ N0 s.heap σ H locs) (hl : lv_has ls 6 [(0, .ref (ad 0 0)), (2, .int (iv x2))]) : W p l e ({ frames := 1, cells := 0, slots := 0, locals := 22 } : Room) s m args below meth c H locs 0 0 (MQ below (Qi D ct ad L φ N0 Q) args s 0 0 (AA N0)) (F0 m 73 ls []) := by
  have hF := X.2.2.2.2.2.2.2.2.1
  unfold wp_X0_takeFigures_73 at hw
  refine lv_aload_n X.1 X.2.1 dX0_takeFigures_73 rfl (lv_at hl 0 rfl) ?_
  refine lv_iload_n X.1 X.2.1 dX0_takeFigures_74 rfl (lv_at hl 1 rfl) ?_
  refine r_put (ci := 0) X inw_0 tyX0 tyX0_ok nmX0 h (hF.1 0 rfl).1 rfl rfl 4 (by decide) kw_233 rfl rfl rfl (Nat.le_of_ble_eq_true rfl) rfl rfl dX0_takeFigures_75 (fun H locs h => ?_)
  obtain ⟨σ_1, eσ_1⟩ : ∃ z : St, z = st σ 0 0 4 x2 := ⟨_, rfl⟩
  rw [← eσ_1] at h
  have hw := hw σ_1 eσ_1
  refine j_iconst X dX0_takeFigures_78 ?_
  exact k_ir X rfl h hw dX0_takeFigures_79
set_option maxRecDepth 100000 in
set_option maxHeartbeats 4000000 in
theorem lb_X0_takeFigures_29 (X : Cx p s m meth c args cX0_takeFigures 6 (some .boolean) RX0 D ct L φ N0) {K73 : St → Int → Prop} (hK73 : ∀ (σ : St) (x2 : Int) (H : Heap) (locs : List Loc) (ls : Array Slot), K73 σ x2 → Hs D ct ad L φ N0 s.heap σ H locs → lv_has ls 6 [(0, .ref (ad 0 0)), (2, .int (iv x2))] → W p l e ({ frames := 1, cells := 0, slots := 0, locals := 22 } : Room) s m args below meth c H locs 0 0 (MQ below (Qi D ct ad L φ N0 Q) args s 0 0 (AA N0)) (F0 m 73 ls [])) : ∀ (n : Nat) (σ : St) (x2 : Int) (x3 : Int) (x4 : Int) (H : Heap) (locs : List Loc) (ls : Array Slot), wp_X0_takeFigures_29 K73 Q n σ x2 x3 x4 → Hs D ct ad L φ N0 s.heap σ H locs → lv_has ls 6 [(0, .ref (ad 0 0)), (2, .int (iv x2)), (3, .int (iv x3)), (4, .int (iv x4))] → W p l e ({ frames := 1, cells := 0, slots := 0, locals := 22 } : Room) s m args below meth c H locs 0 0 (MQ below (Qi D ct ad L φ N0 Q) args s 0 0 (AA N0)) (F0 m 29 ls []) := by
  have hF := X.2.2.2.2.2.2.2.2.1
  intro n
  induction n with
  | zero => intro σ x2 x3 x4 H locs ls hw; exact hw.elim
  | succ n ih =>
    intro σ x2 x3 x4 H locs ls hw h hl
    unfold wp_X0_takeFigures_29 at hw
    refine lv_iload X.1 X.2.1 dX0_takeFigures_29 (lv_at hl 3 rfl) ?_
    obtain ⟨g_2, hwt, hwf⟩ := hw
    refine j_if_lt (tgt := 73) X g_2 dX0_takeFigures_31 (by decide) (fun c_14 => ?_) (fun c_14 => ?_)
    · have hw := hwt c_14
      exact hK73 σ x2 _ _ _ hw h (lv_sub hl [0, 1] rfl)
    · have hw := hwf c_14
      refine lv_iload_n X.1 X.2.1 dX0_takeFigures_34 rfl (lv_at hl 2 rfl) ?_
      refine j_bipush X dX0_takeFigures_35 (by decide) ?_
      obtain ⟨g_3, hw⟩ := hw
      refine j_irem X g_3 ⟨by decide, by decide⟩ (by decide) (by decide) dX0_takeFigures_37 ?_
      refine j_bind (fun v_4 ev_4 => ?_)
      have hw := hw v_4 ev_4
      refine lv_istore (lv' := [(5, .int (iv v_4)), (0, .ref (ad 0 0)), (2, .int (iv x2)), (3, .int (iv x3)), (4, .int (iv x4))]) X.1 X.2.1 dX0_takeFigures_38 hl (by decide) rfl (fun ls hl => ?_)
      refine lv_iload X.1 X.2.1 dX0_takeFigures_40 (lv_at hl 0 rfl) ?_
      refine j_iconst X dX0_takeFigures_42 ?_
      refine j_bipush X dX0_takeFigures_43 (by decide) ?_
      refine k_i h (r_SN (As := [.int (iv v_4), .int (iv 2), .int (iv 6)]) (rest := []) X h (c_X11_within l D ct ad L φ N0 σ v_4 2 6 _ hw) rfl rfl ⟨Nat.le_of_ble_eq_true rfl, Nat.le_of_ble_eq_true rfl⟩ kw_640 kw_527 kw_120 kw_528 pd_X11_within rfl hl.1 rfl (Nat.le_of_ble_eq_true rfl) ⟨Nat.le_of_ble_eq_true rfl, Nat.le_of_ble_eq_true rfl⟩ dX0_takeFigures_45) (fun r_6 σ_5 H locs hw h => ?_)
      obtain ⟨g_7, hwt, hwf⟩ := hw
      refine j_if_ne (tgt := 53) X g_7 dX0_takeFigures_48 (by decide) (fun c_13 => ?_) (fun c_13 => ?_)
      · have hw := hwt c_13
        refine lv_aload_n X.1 X.2.1 dX0_takeFigures_53 rfl (lv_at hl 1 rfl) ?_
        refine r_getR (ci := 0) X inw_0 h (hF.1 0 rfl).1 rfl rfl 3 (by decide) kw_231 rfl ((hF.1 0 rfl).2 3) dX0_takeFigures_54 ?_
        refine lv_iload X.1 X.2.1 dX0_takeFigures_57 (lv_at hl 4 rfl) ?_
        refine lv_iload X.1 X.2.1 dX0_takeFigures_59 (lv_at hl 0 rfl) ?_
        obtain ⟨g_8, g_9, hw⟩ := hw
        refine r_iast (n := 5) X h (hF.1 23 rfl).1 (fun _ => rfl) (by decide) g_8 g_9 rfl dX0_takeFigures_61 (fun H locs h => ?_)
        obtain ⟨σ_10, eσ_10⟩ : ∃ z : St, z = st σ_5 23 0 (Int.toNat x4) v_4 := ⟨_, rfl⟩
        rw [← eσ_10] at h
        have hw := hw σ_10 eσ_10
        refine lv_iload_n X.1 X.2.1 dX0_takeFigures_62 rfl (lv_at hl 3 rfl) ?_
        refine j_bipush X dX0_takeFigures_63 (by decide) ?_
        obtain ⟨g_11, hw⟩ := hw
        refine j_idiv X g_11 ⟨by decide, by decide⟩ (by decide) (by decide) dX0_takeFigures_65 ?_
        refine j_bind (fun v_12 ev_12 => ?_)
        have hw := hw v_12 ev_12
        refine lv_istore_n (lv' := [(3, .int (iv v_12)), (5, .int (iv v_4)), (0, .ref (ad 0 0)), (2, .int (iv x2)), (4, .int (iv x4))]) X.1 X.2.1 dX0_takeFigures_66 rfl hl (by decide) rfl (fun ls hl => ?_)
        refine j_iinc (kk9 := 4) (lv' := [(4, .int (iv (x4 + (-1)))), (3, .int (iv v_12)), (5, .int (iv v_4)), (0, .ref (ad 0 0)), (2, .int (iv x2))]) X dX0_takeFigures_67 hl rfl (by decide) rfl (fun ls hl => ?_)
        refine lv_goto (tgt := 29) X.1 X.2.1 dX0_takeFigures_70 (by decide) ?_
        exact ih σ_10 x2 v_12 (x4 + (-1)) _ _ _ hw h (lv_sub hl [3, 4, 1, 0] rfl)
      · have hw := hwf c_13
        refine j_iconst X dX0_takeFigures_51 ?_
        exact k_ir X rfl h hw dX0_takeFigures_52
theorem pd_X0_takeFigures : yX0_takeFigures.cls ≠ "java/lang/invoke/MethodHandle" ∧ yX0_takeFigures.cls ≠ "java/lang/invoke/VarHandle" ∧ (parseMethodDescriptor yX0_takeFigures.desc).map (fun d => d.parameters.length) = some 1 := by decide +kernel
set_option maxRecDepth 100000 in
set_option maxHeartbeats 4000000 in
theorem c_X0_takeFigures (l : Launch) (D : va_G) (ct : Nat → ClassId) (ad : Nat → Nat → Nat) (L : List (Nat × Nat)) (φ : Nat → Nat → Nat → Bool) (N0 : Nat) (σ : St) (x1 : Int) (Q : Int → St → Prop) (hw : wp_X0_takeFigures σ x1 Q) : Met l yX0_takeFigures (.code yX0_takeFigures cX0_takeFigures 6 (some .boolean) :: gw) ({ frames := 1, cells := 0, slots := 0, locals := 22 } : Room) (Pm D ct ad L φ N0 σ [.ref (ad 0 0), .int (iv x1)]) (Qi D ct ad L φ N0 Q) 0 0 (AA N0) := by
  refine m_of (by decide) (fun p e s m below meth c X hnm h => ?_)
  have hF := X.2.2.2.2.2.2.2.2.1
  have hl := lv_entry ([.ref (ad 0 0), .int (iv x1)]) (n := 6) (Nat.le_of_ble_eq_true rfl)
  rw [lg_entry_eq]
  generalize (lg_sl ([.ref (ad 0 0), .int (iv x1)]) ++ List.replicate (6 - (lg_sl ([.ref (ad 0 0), .int (iv x1)])).length) Slot.unset).toArray = ls at hl ⊢
  have hl : lv_has ls 6 [(0, .ref (ad 0 0)), (1, .int (iv x1))] := hl
  have h : Hs D ct ad L φ N0 s.heap σ s.heap [] := h
  unfold wp_X0_takeFigures at hw
  refine lv_aload_n X.1 X.2.1 dX0_takeFigures_0 rfl (lv_at hl 0 rfl) ?_
  refine j_iconst X dX0_takeFigures_1 ?_
  refine r_put (ci := 0) X inw_0 tyX0 tyX0_ok nmX0 h (hF.1 0 rfl).1 rfl rfl 4 (by decide) kw_233 rfl rfl rfl (Nat.le_of_ble_eq_true rfl) rfl rfl dX0_takeFigures_2 (fun H locs h => ?_)
  obtain ⟨σ_15, eσ_15⟩ : ∃ z : St, z = st σ 0 0 4 0 := ⟨_, rfl⟩
  rw [← eσ_15] at h
  have hw := hw σ_15 eσ_15
  refine lv_iload_n X.1 X.2.1 dX0_takeFigures_5 rfl (lv_at hl 1 rfl) ?_
  refine k_i h (r_S (As := [.int (iv x1)]) (rest := []) X h (c_X0_figuresOf l D ct ad L φ N0 σ_15 x1 _ hw) rfl rfl ⟨Nat.le_of_ble_eq_true rfl, Nat.le_of_ble_eq_true rfl⟩ kw_637 kw_638 kw_123 kw_639 pd_X0_figuresOf rfl hl.1 rfl (Nat.le_of_ble_eq_true rfl) ⟨Nat.le_of_ble_eq_true rfl, Nat.le_of_ble_eq_true rfl⟩ dX0_takeFigures_6) (fun r_17 σ_16 H locs hw h => ?_)
  refine lv_istore_n (lv' := [(2, .int (iv r_17)), (0, .ref (ad 0 0)), (1, .int (iv x1))]) X.1 X.2.1 dX0_takeFigures_9 rfl hl (by decide) rfl (fun ls hl => ?_)
  refine lv_iload_n X.1 X.2.1 dX0_takeFigures_10 rfl (lv_at hl 0 rfl) ?_
  refine j_iconst X dX0_takeFigures_11 ?_
  obtain ⟨g_18, hwt, hwf⟩ := hw
  refine j_cmp_lt (tgt := 20) X g_18 ⟨by decide, by decide⟩ dX0_takeFigures_12 (by decide) (fun c_22 => ?_) (fun c_22 => ?_)
  · have hw := hwt c_22
    refine j_iconst X dX0_takeFigures_20 ?_
    exact k_ir X rfl h hw dX0_takeFigures_21
  · have hw := hwf c_22
    refine lv_iload_n X.1 X.2.1 dX0_takeFigures_15 rfl (lv_at hl 0 rfl) ?_
    refine j_iconst X dX0_takeFigures_16 ?_
    obtain ⟨g_19, hwt, hwf⟩ := hw
    refine j_cmp_le (tgt := 22) X g_19 ⟨by decide, by decide⟩ dX0_takeFigures_17 (by decide) (fun c_21 => ?_) (fun c_21 => ?_)
    · have hw := hwt c_21
      refine lv_iload_n X.1 X.2.1 dX0_takeFigures_22 rfl (lv_at hl 2 rfl) ?_
      refine lv_istore_n (lv' := [(3, .int (iv x1)), (2, .int (iv r_17)), (0, .ref (ad 0 0)), (1, .int (iv x1))]) X.1 X.2.1 dX0_takeFigures_23 rfl hl (by decide) rfl (fun ls hl => ?_)
      refine lv_iload_n X.1 X.2.1 dX0_takeFigures_24 rfl (lv_at hl 1 rfl) ?_
      refine j_iconst X dX0_takeFigures_25 ?_
      refine j_isub X dX0_takeFigures_26 ?_
      refine j_bind (fun v_20 ev_20 => ?_)
      have hw := hw v_20 ev_20
      refine lv_istore (lv' := [(4, .int (iv v_20)), (3, .int (iv x1)), (2, .int (iv r_17)), (0, .ref (ad 0 0)), (1, .int (iv x1))]) X.1 X.2.1 dX0_takeFigures_27 hl (by decide) rfl (fun ls hl => ?_)
      exact hw.elim (fun n29 hw => lb_X0_takeFigures_29 X (lb_X0_takeFigures_73 X) n29 σ_16 r_17 x1 v_20 _ _ _ hw h (lv_sub hl [3, 2, 1, 0] rfl))
    · have hw := hwf c_21
      refine j_iconst X dX0_takeFigures_20 ?_
      exact k_ir X rfl h hw dX0_takeFigures_21
end
section
variable {p : Program} {l : Launch} {e : Env} {s : State} {m : MethodId} {args : Array Value} {below : List Frame} {meth : Method} {c : Code} {D : va_G} {ct : Nat → ClassId} {ad : Nat → Nat → Nat} {L : List (Nat × Nat)} {φ : Nat → Nat → Nat → Bool} {N0 : Nat}
variable {Q : Int → St → Prop}
set_option maxRecDepth 100000 in
set_option maxHeartbeats 4000000 in
theorem lb_X0_chooseRow_73 (X : Cx p s m meth c args cX0_chooseRow 8 (some .int) RX0 D ct L φ N0) (σ : St) (x3 : Int) (x5 : Int) (x6 : Int) (H : Heap) (locs : List Loc) (ls : Array Slot) (hw : wp_X0_chooseRow_73 Q σ x3 x5 x6) (h : Hs D ct ad L φ N0 s.heap σ H locs) (hl : lv_has ls 8 [(3, .int (iv x3)), (5, .int (iv x5)), (6, .int (iv x6))]) : W p l e ({ frames := 2, cells := 0, slots := 0, locals := 47 } : Room) s m args below meth c H locs 0 0 (MQ below (Qi D ct ad L φ N0 Q) args s 0 0 (AA N0)) (F0 m 73 ls []) := by
  have hF := X.2.2.2.2.2.2.2.2.1
  unfold wp_X0_chooseRow_73 at hw
  refine lv_iload X.1 X.2.1 dX0_chooseRow_73 (lv_at hl 2 rfl) ?_
  refine lv_iload_n X.1 X.2.1 dX0_chooseRow_75 rfl (lv_at hl 0 rfl) ?_
  refine k_i h (r_S (As := [.int (iv x3)]) (rest := [.int (iv x6)]) X h (c_X3_lengthOf l D ct ad L φ N0 σ x3 _ hw) rfl rfl ⟨Nat.le_of_ble_eq_true rfl, Nat.le_of_ble_eq_true rfl⟩ kw_607 kw_608 kw_122 kw_609 pd_X3_lengthOf rfl hl.1 rfl (Nat.le_of_ble_eq_true rfl) ⟨Nat.le_of_ble_eq_true rfl, Nat.le_of_ble_eq_true rfl⟩ dX0_chooseRow_76) (fun r_2 σ_1 H locs hw h => ?_)
  obtain ⟨g_3, g_4, hwt, hwf⟩ := hw
  refine j_cmp_gt (tgt := 87) X g_3 g_4 dX0_chooseRow_79 (by decide) (fun c_5 => ?_) (fun c_5 => ?_)
  · have hw := hwt c_5
    refine j_iconst X dX0_chooseRow_87 ?_
    exact k_ir X rfl h hw dX0_chooseRow_88
  · have hw := hwf c_5
    refine lv_iload X.1 X.2.1 dX0_chooseRow_82 (lv_at hl 1 rfl) ?_
    refine lv_goto (tgt := 88) X.1 X.2.1 dX0_chooseRow_84 (by decide) ?_
    exact k_ir X rfl h hw dX0_chooseRow_88
set_option maxRecDepth 100000 in
set_option maxHeartbeats 4000000 in
theorem lb_X0_chooseRow_20 (X : Cx p s m meth c args cX0_chooseRow 8 (some .int) RX0 D ct L φ N0) {K73 : St → Int → Int → Int → Prop} (hK73 : ∀ (σ : St) (x3 : Int) (x5 : Int) (x6 : Int) (H : Heap) (locs : List Loc) (ls : Array Slot), K73 σ x3 x5 x6 → Hs D ct ad L φ N0 s.heap σ H locs → lv_has ls 8 [(3, .int (iv x3)), (5, .int (iv x5)), (6, .int (iv x6))] → W p l e ({ frames := 2, cells := 0, slots := 0, locals := 47 } : Room) s m args below meth c H locs 0 0 (MQ below (Qi D ct ad L φ N0 Q) args s 0 0 (AA N0)) (F0 m 73 ls [])) : ∀ (n : Nat) (σ : St) (x2 : Int) (x3 : Int) (x5 : Int) (x6 : Int) (x7 : Int) (H : Heap) (locs : List Loc) (ls : Array Slot), wp_X0_chooseRow_20 K73 Q n σ x2 x3 x5 x6 x7 → Hs D ct ad L φ N0 s.heap σ H locs → lv_has ls 8 [(0, .ref (ad 0 0)), (1, .ref (ad 3 0)), (2, .int (iv x2)), (3, .int (iv x3)), (5, .int (iv x5)), (6, .int (iv x6)), (7, .int (iv x7))] → W p l e ({ frames := 2, cells := 0, slots := 0, locals := 47 } : Room) s m args below meth c H locs 0 0 (MQ below (Qi D ct ad L φ N0 Q) args s 0 0 (AA N0)) (F0 m 20 ls []) := by
  have hF := X.2.2.2.2.2.2.2.2.1
  intro n
  induction n with
  | zero => intro σ x2 x3 x5 x6 x7 H locs ls hw; exact hw.elim
  | succ n ih =>
    intro σ x2 x3 x5 x6 x7 H locs ls hw h hl
    unfold wp_X0_chooseRow_20 at hw
    refine lv_iload X.1 X.2.1 dX0_chooseRow_20 (lv_at hl 6 rfl) ?_
    refine lv_aload_n X.1 X.2.1 dX0_chooseRow_22 rfl (lv_at hl 0 rfl) ?_
    refine r_get (ci := 0) X inw_0 h (hF.1 0 rfl).1 rfl rfl 4 (by decide) kw_233 rfl dX0_chooseRow_23 ?_
    obtain ⟨g_6, g_7, hwt, hwf⟩ := hw
    refine j_cmp_ge (tgt := 73) X g_6 g_7 dX0_chooseRow_26 (by decide) (fun c_18 => ?_) (fun c_18 => ?_)
    · have hw := hwt c_18
      exact hK73 σ x3 x5 x6 _ _ _ hw h (lv_sub hl [3, 4, 5] rfl)
    · have hw := hwf c_18
      refine lv_iload X.1 X.2.1 dX0_chooseRow_29 (lv_at hl 5 rfl) ?_
      refine lv_aload_n X.1 X.2.1 dX0_chooseRow_31 rfl (lv_at hl 0 rfl) ?_
      refine r_getR (ci := 0) X inw_0 h (hF.1 0 rfl).1 rfl rfl 3 (by decide) kw_231 rfl ((hF.1 0 rfl).2 3) dX0_chooseRow_32 ?_
      refine lv_iload X.1 X.2.1 dX0_chooseRow_35 (lv_at hl 6 rfl) ?_
      obtain ⟨g_8, g_9, hw⟩ := hw
      refine r_iald (n := 5) X h (hF.1 23 rfl).1 rfl (by decide) g_8 g_9 dX0_chooseRow_37 ?_
      refine j_iadd X dX0_chooseRow_38 ?_
      refine j_bind (fun v_10 ev_10 => ?_)
      have hw := hw v_10 ev_10
      refine lv_istore (lv' := [(6, .int (iv v_10)), (0, .ref (ad 0 0)), (1, .ref (ad 3 0)), (2, .int (iv x2)), (3, .int (iv x3)), (5, .int (iv x5)), (7, .int (iv x7))]) X.1 X.2.1 dX0_chooseRow_39 hl (by decide) rfl (fun ls hl => ?_)
      refine lv_iload X.1 X.2.1 dX0_chooseRow_41 (lv_at hl 5 rfl) ?_
      refine lv_aload_n X.1 X.2.1 dX0_chooseRow_43 rfl (lv_at hl 1 rfl) ?_
      refine r_getR (ci := 0) X inw_0 h (hF.1 0 rfl).1 rfl rfl 0 (by decide) kw_227 rfl ((hF.1 0 rfl).2 0) dX0_chooseRow_44 ?_
      refine lv_aload_n X.1 X.2.1 dX0_chooseRow_47 rfl (lv_at hl 1 rfl) ?_
      refine r_getR (ci := 0) X inw_0 h (hF.1 0 rfl).1 rfl rfl 3 (by decide) kw_231 rfl ((hF.1 0 rfl).2 3) dX0_chooseRow_48 ?_
      refine lv_iload X.1 X.2.1 dX0_chooseRow_51 (lv_at hl 6 rfl) ?_
      obtain ⟨g_11, g_12, hw⟩ := hw
      refine r_iald (n := 5) X h (hF.1 23 rfl).1 rfl (by decide) g_11 g_12 dX0_chooseRow_53 ?_
      obtain ⟨g_13, g_14, hw⟩ := hw
      refine r_iald (n := 7) X h (hF.1 20 rfl).1 rfl (by decide) g_13 g_14 dX0_chooseRow_54 ?_
      refine lv_aload_n X.1 X.2.1 dX0_chooseRow_55 rfl (lv_at hl 2 rfl) ?_
      refine lv_iload_n X.1 X.2.1 dX0_chooseRow_56 rfl (lv_at hl 3 rfl) ?_
      refine lv_iload_n X.1 X.2.1 dX0_chooseRow_57 rfl (lv_at hl 4 rfl) ?_
      refine lv_iload X.1 X.2.1 dX0_chooseRow_58 (lv_at hl 0 rfl) ?_
      refine k_i h (r_V (C := RX3) (ci := 3) (As := [.int (iv x2), .int (iv x3), .int (iv v_10)]) (rest := [.int (iv (σ 20 0 (Int.toNat (σ 23 0 (Int.toNat x7))))), .int (iv x5)]) X h (c_X3_wideAt l D ct ad L φ N0 σ x2 x3 v_10 _ hw) rfl rfl ⟨Nat.le_of_ble_eq_true rfl, Nat.le_of_ble_eq_true rfl⟩ kw_614 kw_615 kw_616 kw_122 kw_617 ⟨rfl, pd_X3_wideAt⟩ (hF.1 3 rfl).1 rfl rfl rfl hl.1 rfl (Nat.le_of_ble_eq_true rfl) ⟨Nat.le_of_ble_eq_true rfl, Nat.le_of_ble_eq_true rfl⟩ dX0_chooseRow_60) (fun r_16 σ_15 H locs hw h => ?_)
      refine j_imul X dX0_chooseRow_63 ?_
      refine j_iadd X dX0_chooseRow_64 ?_
      refine j_bind (fun v_17 ev_17 => ?_)
      have hw := hw v_17 ev_17
      refine lv_istore (lv' := [(5, .int (iv v_17)), (6, .int (iv v_10)), (0, .ref (ad 0 0)), (1, .ref (ad 3 0)), (2, .int (iv x2)), (3, .int (iv x3)), (7, .int (iv x7))]) X.1 X.2.1 dX0_chooseRow_65 hl (by decide) rfl (fun ls hl => ?_)
      refine j_iinc (kk9 := 6) (lv' := [(7, .int (iv (x7 + 1))), (5, .int (iv v_17)), (6, .int (iv v_10)), (0, .ref (ad 0 0)), (1, .ref (ad 3 0)), (2, .int (iv x2)), (3, .int (iv x3))]) X dX0_chooseRow_67 hl rfl (by decide) rfl (fun ls hl => ?_)
      refine lv_goto (tgt := 20) X.1 X.2.1 dX0_chooseRow_70 (by decide) ?_
      exact ih σ_15 x2 x3 v_17 v_10 (x7 + 1) _ _ _ hw h (lv_sub hl [3, 4, 5, 6, 1, 2, 0] rfl)
theorem pd_X0_chooseRow : yX0_chooseRow.cls ≠ "java/lang/invoke/MethodHandle" ∧ yX0_chooseRow.cls ≠ "java/lang/invoke/VarHandle" ∧ (parseMethodDescriptor yX0_chooseRow.desc).map (fun d => d.parameters.length) = some 4 := by decide +kernel
set_option maxRecDepth 100000 in
set_option maxHeartbeats 4000000 in
theorem c_X0_chooseRow (l : Launch) (D : va_G) (ct : Nat → ClassId) (ad : Nat → Nat → Nat) (L : List (Nat × Nat)) (φ : Nat → Nat → Nat → Bool) (N0 : Nat) (σ : St) (x2 : Int) (x3 : Int) (x4 : Int) (Q : Int → St → Prop) (hw : wp_X0_chooseRow σ x2 x3 x4 Q) : Met l yX0_chooseRow (.code yX0_chooseRow cX0_chooseRow 8 (some .int) :: gw) ({ frames := 2, cells := 0, slots := 0, locals := 47 } : Room) (Pm D ct ad L φ N0 σ [.ref (ad 0 0), .ref (ad 3 0), .int (iv x2), .int (iv x3), .int (iv x4)]) (Qi D ct ad L φ N0 Q) 0 0 (AA N0) := by
  refine m_of (by decide) (fun p e s m below meth c X hnm h => ?_)
  have hF := X.2.2.2.2.2.2.2.2.1
  have hl := lv_entry ([.ref (ad 0 0), .ref (ad 3 0), .int (iv x2), .int (iv x3), .int (iv x4)]) (n := 8) (Nat.le_of_ble_eq_true rfl)
  rw [lg_entry_eq]
  generalize (lg_sl ([.ref (ad 0 0), .ref (ad 3 0), .int (iv x2), .int (iv x3), .int (iv x4)]) ++ List.replicate (8 - (lg_sl ([.ref (ad 0 0), .ref (ad 3 0), .int (iv x2), .int (iv x3), .int (iv x4)])).length) Slot.unset).toArray = ls at hl ⊢
  have hl : lv_has ls 8 [(0, .ref (ad 0 0)), (1, .ref (ad 3 0)), (2, .int (iv x2)), (3, .int (iv x3)), (4, .int (iv x4))] := hl
  have h : Hs D ct ad L φ N0 s.heap σ s.heap [] := h
  unfold wp_X0_chooseRow at hw
  refine lv_aload_n X.1 X.2.1 dX0_chooseRow_0 rfl (lv_at hl 0 rfl) ?_
  refine lv_iload X.1 X.2.1 dX0_chooseRow_1 (lv_at hl 4 rfl) ?_
  refine k_i h (r_V (C := RX0) (ci := 0) (As := [.int (iv x4)]) (rest := []) X h (c_X0_takeFigures l D ct ad L φ N0 σ x4 _ hw) rfl rfl ⟨Nat.le_of_ble_eq_true rfl, Nat.le_of_ble_eq_true rfl⟩ kw_633 kw_635 kw_3 kw_123 kw_636 ⟨rfl, pd_X0_takeFigures⟩ (hF.1 0 rfl).1 rfl rfl rfl hl.1 rfl (Nat.le_of_ble_eq_true rfl) ⟨Nat.le_of_ble_eq_true rfl, Nat.le_of_ble_eq_true rfl⟩ dX0_chooseRow_3) (fun r_20 σ_19 H locs hw h => ?_)
  obtain ⟨g_21, hwt, hwf⟩ := hw
  refine j_if_ne (tgt := 11) X g_21 dX0_chooseRow_6 (by decide) (fun c_22 => ?_) (fun c_22 => ?_)
  · have hw := hwt c_22
    refine j_iconst X dX0_chooseRow_11 ?_
    refine lv_istore (lv' := [(5, .int (iv 0)), (0, .ref (ad 0 0)), (1, .ref (ad 3 0)), (2, .int (iv x2)), (3, .int (iv x3)), (4, .int (iv x4))]) X.1 X.2.1 dX0_chooseRow_12 hl (by decide) rfl (fun ls hl => ?_)
    refine j_iconst X dX0_chooseRow_14 ?_
    refine lv_istore (lv' := [(6, .int (iv 0)), (5, .int (iv 0)), (0, .ref (ad 0 0)), (1, .ref (ad 3 0)), (2, .int (iv x2)), (3, .int (iv x3)), (4, .int (iv x4))]) X.1 X.2.1 dX0_chooseRow_15 hl (by decide) rfl (fun ls hl => ?_)
    refine j_iconst X dX0_chooseRow_17 ?_
    refine lv_istore (lv' := [(7, .int (iv 0)), (6, .int (iv 0)), (5, .int (iv 0)), (0, .ref (ad 0 0)), (1, .ref (ad 3 0)), (2, .int (iv x2)), (3, .int (iv x3)), (4, .int (iv x4))]) X.1 X.2.1 dX0_chooseRow_18 hl (by decide) rfl (fun ls hl => ?_)
    exact hw.elim (fun n20 hw => lb_X0_chooseRow_20 X (lb_X0_chooseRow_73 X) n20 σ_19 x2 x3 0 0 0 _ _ _ hw h (lv_sub hl [3, 4, 5, 6, 2, 1, 0] rfl))
  · have hw := hwf c_22
    refine j_iconst X dX0_chooseRow_9 ?_
    exact k_ir X rfl h hw dX0_chooseRow_10
end
section
variable {p : Program} {l : Launch} {e : Env} {s : State} {m : MethodId} {args : Array Value} {below : List Frame} {meth : Method} {c : Code} {D : va_G} {ct : Nat → ClassId} {ad : Nat → Nat → Nat} {L : List (Nat × Nat)} {φ : Nat → Nat → Nat → Bool} {N0 : Nat}
variable {Q : Int → St → Prop}
theorem pd_J9_min_7cf53 : yJ9_min_7cf53.cls ≠ "java/lang/invoke/MethodHandle" ∧ yJ9_min_7cf53.cls ≠ "java/lang/invoke/VarHandle" ∧ (parseMethodDescriptor yJ9_min_7cf53.desc).map (fun d => d.parameters.length) = some 2 := by decide +kernel
set_option maxRecDepth 100000 in
set_option maxHeartbeats 4000000 in
theorem c_J9_min_7cf53 (l : Launch) (D : va_G) (ct : Nat → ClassId) (ad : Nat → Nat → Nat) (L : List (Nat × Nat)) (φ : Nat → Nat → Nat → Bool) (N0 : Nat) (σ : St) (x0 : Int) (x1 : Int) (Q : Int → St → Prop) (hw : wp_J9_min_7cf53 σ x0 x1 Q) : Met l yJ9_min_7cf53 (.code yJ9_min_7cf53 cJ9_min_7cf53 2 (some .int) :: gw) ({ frames := 0, cells := 0, slots := 0, locals := 0 } : Room) (Pm D ct ad L φ N0 σ [.int (iv x0), .int (iv x1)]) (Qi D ct ad L φ N0 Q) 0 0 (AA N0) := by
  refine m_ofF (by decide +kernel) (fun p e s m below meth c X hnm h => ?_)
  have hF := X.2.2.2.2.2.2.2.2.1
  have hl := lv_entry ([.int (iv x0), .int (iv x1)]) (n := 2) (Nat.le_of_ble_eq_true rfl)
  rw [lg_entry_eq]
  generalize (lg_sl ([.int (iv x0), .int (iv x1)]) ++ List.replicate (2 - (lg_sl ([.int (iv x0), .int (iv x1)])).length) Slot.unset).toArray = ls at hl ⊢
  have hl : lv_has ls 2 [(0, .int (iv x0)), (1, .int (iv x1))] := hl
  have h : Hs D ct ad L φ N0 s.heap σ s.heap [] := h
  unfold wp_J9_min_7cf53 at hw
  refine lv_iload_n X.1 X.2.1 dJ9_min_7cf53_0 rfl (lv_at hl 0 rfl) ?_
  refine lv_iload_n X.1 X.2.1 dJ9_min_7cf53_1 rfl (lv_at hl 1 rfl) ?_
  obtain ⟨g_1, g_2, hwt, hwf⟩ := hw
  refine j_cmp_gt (tgt := 9) X g_1 g_2 dJ9_min_7cf53_2 (by decide) (fun c_3 => ?_) (fun c_3 => ?_)
  · have hw := hwt c_3
    refine lv_iload_n X.1 X.2.1 dJ9_min_7cf53_9 rfl (lv_at hl 1 rfl) ?_
    exact k_ir X rfl h hw dJ9_min_7cf53_10
  · have hw := hwf c_3
    refine lv_iload_n X.1 X.2.1 dJ9_min_7cf53_5 rfl (lv_at hl 0 rfl) ?_
    refine lv_goto (tgt := 10) X.1 X.2.1 dJ9_min_7cf53_6 (by decide) ?_
    exact k_ir X rfl h hw dJ9_min_7cf53_10
end
section
variable {p : Program} {l : Launch} {e : Env} {s : State} {m : MethodId} {args : Array Value} {below : List Frame} {meth : Method} {c : Code} {D : va_G} {ct : Nat → ClassId} {ad : Nat → Nat → Nat} {L : List (Nat × Nat)} {φ : Nat → Nat → Nat → Bool} {N0 : Nat}
variable {Q : St → Prop}
theorem pd_X1_closeMonth : yX1_closeMonth.cls ≠ "java/lang/invoke/MethodHandle" ∧ yX1_closeMonth.cls ≠ "java/lang/invoke/VarHandle" ∧ (parseMethodDescriptor yX1_closeMonth.desc).map (fun d => d.parameters.length) = some 1 := by decide +kernel
set_option maxRecDepth 100000 in
set_option maxHeartbeats 4000000 in
theorem c_X1_closeMonth (l : Launch) (D : va_G) (ct : Nat → ClassId) (ad : Nat → Nat → Nat) (L : List (Nat × Nat)) (φ : Nat → Nat → Nat → Bool) (N0 : Nat) (σ : St) (j0 : Nat) (x1 : Int) (Q : St → Prop) (hw : wp_X1_closeMonth σ j0 x1 Q) : Met l yX1_closeMonth (.code yX1_closeMonth cX1_closeMonth 3 none :: gw) ({ frames := 1, cells := 0, slots := 0, locals := 21 } : Room) (Pm D ct ad L φ N0 σ [.ref (ad 1 j0), .int (iv x1)]) (Qv D ct ad L φ N0 Q) 0 0 (AA N0) := by
  refine m_of (by decide) (fun p e s m below meth c X hnm h => ?_)
  have hF := X.2.2.2.2.2.2.2.2.1
  have hl := lv_entry ([.ref (ad 1 j0), .int (iv x1)]) (n := 3) (Nat.le_of_ble_eq_true rfl)
  rw [lg_entry_eq]
  generalize (lg_sl ([.ref (ad 1 j0), .int (iv x1)]) ++ List.replicate (3 - (lg_sl ([.ref (ad 1 j0), .int (iv x1)])).length) Slot.unset).toArray = ls at hl ⊢
  have hl : lv_has ls 3 [(0, .ref (ad 1 j0)), (1, .int (iv x1))] := hl
  have h : Hs D ct ad L φ N0 s.heap σ s.heap [] := h
  unfold wp_X1_closeMonth at hw
  refine lv_aload_n X.1 X.2.1 dX1_closeMonth_0 rfl (lv_at hl 0 rfl) ?_
  refine lv_dup X.1 X.2.1 dX1_closeMonth_1 rfl ?_
  obtain ⟨g_1, hw⟩ := hw
  refine r_get (ci := 1) X inw_1 h (h.2.2.2.2.1 j0 g_1) rfl rfl 2 (by decide) kw_1192 rfl dX1_closeMonth_2 ?_
  refine lv_iload_n X.1 X.2.1 dX1_closeMonth_5 rfl (lv_at hl 1 rfl) ?_
  refine j_iadd X dX1_closeMonth_6 ?_
  obtain ⟨g_2, hw⟩ := hw
  refine r_put (ci := 1) X inw_1 tyX1 tyX1_ok nmX1 h (h.2.2.2.2.1 j0 g_2) rfl rfl 2 (by decide) kw_1192 rfl rfl rfl (Nat.le_of_ble_eq_true rfl) rfl rfl dX1_closeMonth_7 (fun H locs h => ?_)
  obtain ⟨σ_3, eσ_3⟩ : ∃ z : St, z = st σ 1 j0 2 ((σ 1 j0 2) + x1) := ⟨_, rfl⟩
  rw [← eσ_3] at h
  have hw := hw σ_3 eσ_3
  refine lv_aload_n X.1 X.2.1 dX1_closeMonth_10 rfl (lv_at hl 0 rfl) ?_
  obtain ⟨g_4, hw⟩ := hw
  refine r_get (ci := 1) X inw_1 h (h.2.2.2.2.1 j0 g_4) rfl rfl 1 (by decide) kw_1190 rfl dX1_closeMonth_11 ?_
  refine lv_aload_n X.1 X.2.1 dX1_closeMonth_14 rfl (lv_at hl 0 rfl) ?_
  obtain ⟨g_5, hw⟩ := hw
  refine r_get (ci := 1) X inw_1 h (h.2.2.2.2.1 j0 g_5) rfl rfl 2 (by decide) kw_1192 rfl dX1_closeMonth_15 ?_
  refine k_i h (r_S (As := [.int (iv (σ_3 1 j0 1)), .int (iv (σ_3 1 j0 2))]) (rest := []) X h (c_J9_min_7cf53 l D ct ad L φ N0 σ_3 (σ_3 1 j0 1) (σ_3 1 j0 2) _ hw) rfl rfl ⟨Nat.le_of_ble_eq_true rfl, Nat.le_of_ble_eq_true rfl⟩ kw_917 kw_918 kw_130 kw_919 pd_J9_min_7cf53 rfl hl.1 rfl (Nat.le_of_ble_eq_true rfl) ⟨Nat.le_of_ble_eq_true rfl, Nat.le_of_ble_eq_true rfl⟩ dX1_closeMonth_18) (fun r_7 σ_6 H locs hw h => ?_)
  refine lv_istore_n (lv' := [(2, .int (iv r_7)), (0, .ref (ad 1 j0)), (1, .int (iv x1))]) X.1 X.2.1 dX1_closeMonth_21 rfl hl (by decide) rfl (fun ls hl => ?_)
  refine lv_aload_n X.1 X.2.1 dX1_closeMonth_22 rfl (lv_at hl 1 rfl) ?_
  refine lv_dup X.1 X.2.1 dX1_closeMonth_23 rfl ?_
  obtain ⟨g_8, hw⟩ := hw
  refine r_get (ci := 1) X inw_1 h (h.2.2.2.2.1 j0 g_8) rfl rfl 2 (by decide) kw_1192 rfl dX1_closeMonth_24 ?_
  refine lv_iload_n X.1 X.2.1 dX1_closeMonth_27 rfl (lv_at hl 0 rfl) ?_
  refine j_isub X dX1_closeMonth_28 ?_
  obtain ⟨g_9, hw⟩ := hw
  refine r_put (ci := 1) X inw_1 tyX1 tyX1_ok nmX1 h (h.2.2.2.2.1 j0 g_9) rfl rfl 2 (by decide) kw_1192 rfl rfl rfl (Nat.le_of_ble_eq_true rfl) rfl rfl dX1_closeMonth_29 (fun H locs h => ?_)
  obtain ⟨σ_10, eσ_10⟩ : ∃ z : St, z = st σ_6 1 j0 2 ((σ_6 1 j0 2) - r_7) := ⟨_, rfl⟩
  rw [← eσ_10] at h
  have hw := hw σ_10 eσ_10
  refine lv_aload_n X.1 X.2.1 dX1_closeMonth_32 rfl (lv_at hl 1 rfl) ?_
  refine lv_dup X.1 X.2.1 dX1_closeMonth_33 rfl ?_
  obtain ⟨g_11, hw⟩ := hw
  refine r_get (ci := 1) X inw_1 h (h.2.2.2.2.1 j0 g_11) rfl rfl 3 (by decide) kw_1194 rfl dX1_closeMonth_34 ?_
  refine lv_aload_n X.1 X.2.1 dX1_closeMonth_37 rfl (lv_at hl 1 rfl) ?_
  obtain ⟨g_12, hw⟩ := hw
  refine r_get (ci := 1) X inw_1 h (h.2.2.2.2.1 j0 g_12) rfl rfl 1 (by decide) kw_1190 rfl dX1_closeMonth_38 ?_
  refine lv_iload_n X.1 X.2.1 dX1_closeMonth_41 rfl (lv_at hl 0 rfl) ?_
  refine j_isub X dX1_closeMonth_42 ?_
  refine j_iadd X dX1_closeMonth_43 ?_
  obtain ⟨g_13, hw⟩ := hw
  refine r_put (ci := 1) X inw_1 tyX1 tyX1_ok nmX1 h (h.2.2.2.2.1 j0 g_13) rfl rfl 3 (by decide) kw_1194 rfl rfl rfl (Nat.le_of_ble_eq_true rfl) rfl rfl dX1_closeMonth_44 (fun H locs h => ?_)
  obtain ⟨σ_14, eσ_14⟩ : ∃ z : St, z = st σ_10 1 j0 3 ((σ_10 1 j0 3) + ((σ_10 1 j0 1) - r_7)) := ⟨_, rfl⟩
  rw [← eσ_14] at h
  have hw := hw σ_14 eσ_14
  refine lv_aload_n X.1 X.2.1 dX1_closeMonth_47 rfl (lv_at hl 1 rfl) ?_
  refine j_iconst X dX1_closeMonth_48 ?_
  obtain ⟨g_15, hw⟩ := hw
  refine r_put (ci := 1) X inw_1 tyX1 tyX1_ok nmX1 h (h.2.2.2.2.1 j0 g_15) rfl rfl 1 (by decide) kw_1190 rfl rfl rfl (Nat.le_of_ble_eq_true rfl) rfl rfl dX1_closeMonth_49 (fun H locs h => ?_)
  obtain ⟨σ_16, eσ_16⟩ : ∃ z : St, z = st σ_14 1 j0 1 0 := ⟨_, rfl⟩
  rw [← eσ_16] at h
  have hw := hw σ_16 eσ_16
  exact k_vr X h hw dX1_closeMonth_52
end
section
variable {p : Program} {l : Launch} {e : Env} {s : State} {m : MethodId} {args : Array Value} {below : List Frame} {meth : Method} {c : Code} {D : va_G} {ct : Nat → ClassId} {ad : Nat → Nat → Nat} {L : List (Nat × Nat)} {φ : Nat → Nat → Nat → Bool} {N0 : Nat}
variable {Q : Int → St → Prop}
theorem pd_X1_settleForGood : yX1_settleForGood.cls ≠ "java/lang/invoke/MethodHandle" ∧ yX1_settleForGood.cls ≠ "java/lang/invoke/VarHandle" ∧ (parseMethodDescriptor yX1_settleForGood.desc).map (fun d => d.parameters.length) = some 0 := by decide +kernel
set_option maxRecDepth 100000 in
set_option maxHeartbeats 4000000 in
theorem c_X1_settleForGood (l : Launch) (D : va_G) (ct : Nat → ClassId) (ad : Nat → Nat → Nat) (L : List (Nat × Nat)) (φ : Nat → Nat → Nat → Bool) (N0 : Nat) (σ : St) (j0 : Nat) (Q : Int → St → Prop) (hw : wp_X1_settleForGood σ j0 Q) : Met l yX1_settleForGood (.code yX1_settleForGood cX1_settleForGood 2 (some .int) :: gw) ({ frames := 1, cells := 0, slots := 0, locals := 21 } : Room) (Pm D ct ad L φ N0 σ [.ref (ad 1 j0)]) (Qi D ct ad L φ N0 Q) 0 0 (AA N0) := by
  refine m_of (by decide) (fun p e s m below meth c X hnm h => ?_)
  have hF := X.2.2.2.2.2.2.2.2.1
  have hl := lv_entry ([.ref (ad 1 j0)]) (n := 2) (Nat.le_of_ble_eq_true rfl)
  rw [lg_entry_eq]
  generalize (lg_sl ([.ref (ad 1 j0)]) ++ List.replicate (2 - (lg_sl ([.ref (ad 1 j0)])).length) Slot.unset).toArray = ls at hl ⊢
  have hl : lv_has ls 2 [(0, .ref (ad 1 j0))] := hl
  have h : Hs D ct ad L φ N0 s.heap σ s.heap [] := h
  unfold wp_X1_settleForGood at hw
  refine lv_aload_n X.1 X.2.1 dX1_settleForGood_0 rfl (lv_at hl 0 rfl) ?_
  obtain ⟨g_1, hw⟩ := hw
  refine r_get (ci := 1) X inw_1 h (h.2.2.2.2.1 j0 g_1) rfl rfl 1 (by decide) kw_1190 rfl dX1_settleForGood_1 ?_
  refine lv_aload_n X.1 X.2.1 dX1_settleForGood_4 rfl (lv_at hl 0 rfl) ?_
  obtain ⟨g_2, hw⟩ := hw
  refine r_get (ci := 1) X inw_1 h (h.2.2.2.2.1 j0 g_2) rfl rfl 2 (by decide) kw_1192 rfl dX1_settleForGood_5 ?_
  refine j_isub X dX1_settleForGood_8 ?_
  refine j_bind (fun v_3 ev_3 => ?_)
  have hw := hw v_3 ev_3
  refine lv_istore_n (lv' := [(1, .int (iv v_3)), (0, .ref (ad 1 j0))]) X.1 X.2.1 dX1_settleForGood_9 rfl hl (by decide) rfl (fun ls hl => ?_)
  refine lv_aload_n X.1 X.2.1 dX1_settleForGood_10 rfl (lv_at hl 1 rfl) ?_
  refine j_iconst X dX1_settleForGood_11 ?_
  obtain ⟨g_4, hw⟩ := hw
  refine r_put (ci := 1) X inw_1 tyX1 tyX1_ok nmX1 h (h.2.2.2.2.1 j0 g_4) rfl rfl 1 (by decide) kw_1190 rfl rfl rfl (Nat.le_of_ble_eq_true rfl) rfl rfl dX1_settleForGood_12 (fun H locs h => ?_)
  obtain ⟨σ_5, eσ_5⟩ : ∃ z : St, z = st σ 1 j0 1 0 := ⟨_, rfl⟩
  rw [← eσ_5] at h
  have hw := hw σ_5 eσ_5
  refine lv_aload_n X.1 X.2.1 dX1_settleForGood_15 rfl (lv_at hl 1 rfl) ?_
  refine j_iconst X dX1_settleForGood_16 ?_
  refine lv_iload_n X.1 X.2.1 dX1_settleForGood_17 rfl (lv_at hl 0 rfl) ?_
  refine j_ineg X dX1_settleForGood_18 ?_
  refine k_i h (r_S (As := [.int (iv 0), .int (iv (-v_3))]) (rest := [.ref (ad 1 j0)]) X h (c_J9_max_7cf53 l D ct ad L φ N0 σ_5 0 (-v_3) _ hw) rfl rfl ⟨Nat.le_of_ble_eq_true rfl, Nat.le_of_ble_eq_true rfl⟩ kw_1222 kw_619 kw_130 kw_620 pd_J9_max_7cf53 rfl hl.1 rfl (Nat.le_of_ble_eq_true rfl) ⟨Nat.le_of_ble_eq_true rfl, Nat.le_of_ble_eq_true rfl⟩ dX1_settleForGood_19) (fun r_7 σ_6 H locs hw h => ?_)
  obtain ⟨g_8, hw⟩ := hw
  refine r_put (ci := 1) X inw_1 tyX1 tyX1_ok nmX1 h (h.2.2.2.2.1 j0 g_8) rfl rfl 2 (by decide) kw_1192 rfl rfl rfl (Nat.le_of_ble_eq_true rfl) rfl rfl dX1_settleForGood_22 (fun H locs h => ?_)
  obtain ⟨σ_9, eσ_9⟩ : ∃ z : St, z = st σ_6 1 j0 2 r_7 := ⟨_, rfl⟩
  rw [← eσ_9] at h
  have hw := hw σ_9 eσ_9
  refine lv_aload_n X.1 X.2.1 dX1_settleForGood_25 rfl (lv_at hl 1 rfl) ?_
  refine lv_dup X.1 X.2.1 dX1_settleForGood_26 rfl ?_
  obtain ⟨g_10, hw⟩ := hw
  refine r_get (ci := 1) X inw_1 h (h.2.2.2.2.1 j0 g_10) rfl rfl 3 (by decide) kw_1194 rfl dX1_settleForGood_27 ?_
  refine j_iconst X dX1_settleForGood_30 ?_
  refine lv_iload_n X.1 X.2.1 dX1_settleForGood_31 rfl (lv_at hl 0 rfl) ?_
  refine k_i h (r_S (As := [.int (iv 0), .int (iv v_3)]) (rest := [.int (iv (σ_9 1 j0 3)), .ref (ad 1 j0)]) X h (c_J9_max_7cf53 l D ct ad L φ N0 σ_9 0 v_3 _ hw) rfl rfl ⟨Nat.le_of_ble_eq_true rfl, Nat.le_of_ble_eq_true rfl⟩ kw_1222 kw_619 kw_130 kw_620 pd_J9_max_7cf53 rfl hl.1 rfl (Nat.le_of_ble_eq_true rfl) ⟨Nat.le_of_ble_eq_true rfl, Nat.le_of_ble_eq_true rfl⟩ dX1_settleForGood_32) (fun r_12 σ_11 H locs hw h => ?_)
  refine j_iadd X dX1_settleForGood_35 ?_
  obtain ⟨g_13, hw⟩ := hw
  refine r_put (ci := 1) X inw_1 tyX1 tyX1_ok nmX1 h (h.2.2.2.2.1 j0 g_13) rfl rfl 3 (by decide) kw_1194 rfl rfl rfl (Nat.le_of_ble_eq_true rfl) rfl rfl dX1_settleForGood_36 (fun H locs h => ?_)
  obtain ⟨σ_14, eσ_14⟩ : ∃ z : St, z = st σ_11 1 j0 3 ((σ_9 1 j0 3) + r_12) := ⟨_, rfl⟩
  rw [← eσ_14] at h
  have hw := hw σ_14 eσ_14
  refine lv_aload_n X.1 X.2.1 dX1_settleForGood_39 rfl (lv_at hl 1 rfl) ?_
  refine j_iconst X dX1_settleForGood_40 ?_
  obtain ⟨g_15, hw⟩ := hw
  refine r_put (ci := 1) X inw_1 tyX1 tyX1_ok nmX1 h (h.2.2.2.2.1 j0 g_15) rfl rfl 4 (by decide) kw_1196 rfl rfl rfl (Nat.le_of_ble_eq_true rfl) rfl rfl dX1_settleForGood_41 (fun H locs h => ?_)
  obtain ⟨σ_16, eσ_16⟩ : ∃ z : St, z = st σ_14 1 j0 4 1 := ⟨_, rfl⟩
  rw [← eσ_16] at h
  have hw := hw σ_16 eσ_16
  refine lv_iload_n X.1 X.2.1 dX1_settleForGood_44 rfl (lv_at hl 0 rfl) ?_
  exact k_ir X rfl h hw dX1_settleForGood_45
end
section
variable {p : Program} {l : Launch} {e : Env} {s : State} {m : MethodId} {args : Array Value} {below : List Frame} {meth : Method} {c : Code} {D : va_G} {ct : Nat → ClassId} {ad : Nat → Nat → Nat} {L : List (Nat × Nat)} {φ : Nat → Nat → Nat → Bool} {N0 : Nat}
variable {Q : Int → St → Prop}
theorem pd_X1_told : yX1_told.cls ≠ "java/lang/invoke/MethodHandle" ∧ yX1_told.cls ≠ "java/lang/invoke/VarHandle" ∧ (parseMethodDescriptor yX1_told.desc).map (fun d => d.parameters.length) = some 1 := by decide +kernel
set_option maxRecDepth 100000 in
set_option maxHeartbeats 4000000 in
theorem c_X1_told (l : Launch) (D : va_G) (ct : Nat → ClassId) (ad : Nat → Nat → Nat) (L : List (Nat × Nat)) (φ : Nat → Nat → Nat → Bool) (N0 : Nat) (σ : St) (j0 : Nat) (x1 : Int) (Q : Int → St → Prop) (hw : wp_X1_told σ j0 x1 Q) : Met l yX1_told (.code yX1_told cX1_told 2 (some .int) :: gw) ({ frames := 0, cells := 0, slots := 0, locals := 0 } : Room) (Pm D ct ad L φ N0 σ [.ref (ad 1 j0), .int (iv x1)]) (Qi D ct ad L φ N0 Q) 0 0 (AA N0) := by
  refine m_of (by decide) (fun p e s m below meth c X hnm h => ?_)
  have hF := X.2.2.2.2.2.2.2.2.1
  have hl := lv_entry ([.ref (ad 1 j0), .int (iv x1)]) (n := 2) (Nat.le_of_ble_eq_true rfl)
  rw [lg_entry_eq]
  generalize (lg_sl ([.ref (ad 1 j0), .int (iv x1)]) ++ List.replicate (2 - (lg_sl ([.ref (ad 1 j0), .int (iv x1)])).length) Slot.unset).toArray = ls at hl ⊢
  have hl : lv_has ls 2 [(0, .ref (ad 1 j0)), (1, .int (iv x1))] := hl
  have h : Hs D ct ad L φ N0 s.heap σ s.heap [] := h
  unfold wp_X1_told at hw
  refine lv_iload_n X.1 X.2.1 dX1_told_0 rfl (lv_at hl 1 rfl) ?_
  obtain ⟨g_1, hw0, hw1, hw2, hw3, hw4, hw5⟩ := hw
  by_cases c_9 : x1 = 0
  · have hw := hw0 c_9
    refine j_tin (v := 0) (tgt := 36) X g_1 c_9 dX1_told_1 (by decide) (by decide) rfl (by decide) ?_
    refine lv_aload_n X.1 X.2.1 dX1_told_36 rfl (lv_at hl 0 rfl) ?_
    obtain ⟨g_2, hw⟩ := hw
    refine r_get (ci := 1) X inw_1 h (h.2.2.2.2.1 j0 g_2) rfl rfl 0 (by decide) kw_1188 rfl dX1_told_37 ?_
    exact k_ir X rfl h hw dX1_told_40
  by_cases c_10 : x1 = 1
  · have hw := hw1 c_10
    refine j_tin (v := 1) (tgt := 41) X g_1 c_10 dX1_told_1 (by decide) (by decide) rfl (by decide) ?_
    refine lv_aload_n X.1 X.2.1 dX1_told_41 rfl (lv_at hl 0 rfl) ?_
    obtain ⟨g_3, hw⟩ := hw
    refine r_get (ci := 1) X inw_1 h (h.2.2.2.2.1 j0 g_3) rfl rfl 1 (by decide) kw_1190 rfl dX1_told_42 ?_
    exact k_ir X rfl h hw dX1_told_45
  by_cases c_11 : x1 = 2
  · have hw := hw2 c_11
    refine j_tin (v := 2) (tgt := 46) X g_1 c_11 dX1_told_1 (by decide) (by decide) rfl (by decide) ?_
    refine lv_aload_n X.1 X.2.1 dX1_told_46 rfl (lv_at hl 0 rfl) ?_
    obtain ⟨g_4, hw⟩ := hw
    refine r_get (ci := 1) X inw_1 h (h.2.2.2.2.1 j0 g_4) rfl rfl 2 (by decide) kw_1192 rfl dX1_told_47 ?_
    exact k_ir X rfl h hw dX1_told_50
  by_cases c_12 : x1 = 3
  · have hw := hw3 c_12
    refine j_tin (v := 3) (tgt := 51) X g_1 c_12 dX1_told_1 (by decide) (by decide) rfl (by decide) ?_
    refine lv_aload_n X.1 X.2.1 dX1_told_51 rfl (lv_at hl 0 rfl) ?_
    obtain ⟨g_5, hw⟩ := hw
    refine r_get (ci := 1) X inw_1 h (h.2.2.2.2.1 j0 g_5) rfl rfl 3 (by decide) kw_1194 rfl dX1_told_52 ?_
    exact k_ir X rfl h hw dX1_told_55
  by_cases c_13 : x1 = 4
  · have hw := hw4 c_13
    refine j_tin (v := 4) (tgt := 56) X g_1 c_13 dX1_told_1 (by decide) (by decide) rfl (by decide) ?_
    refine lv_aload_n X.1 X.2.1 dX1_told_56 rfl (lv_at hl 0 rfl) ?_
    obtain ⟨g_6, hw⟩ := hw
    refine r_get (ci := 1) X inw_1 h (h.2.2.2.2.1 j0 g_6) rfl rfl 4 (by decide) kw_1196 rfl dX1_told_57 ?_
    obtain ⟨g_7, hwt, hwf⟩ := hw
    refine j_if_eq (tgt := 67) X g_7 dX1_told_60 (by decide) (fun c_8 => ?_) (fun c_8 => ?_)
    · have hw := hwt c_8
      refine j_iconst X dX1_told_67 ?_
      exact k_ir X rfl h hw dX1_told_68
    · have hw := hwf c_8
      refine j_iconst X dX1_told_63 ?_
      refine lv_goto (tgt := 68) X.1 X.2.1 dX1_told_64 (by decide) ?_
      exact k_ir X rfl h hw dX1_told_68
  have c_14 : x1 < 0 ∨ 4 < x1 := by omega
  have hw := hw5 c_14
  refine j_tout (tgt := 69) X g_1 c_14 dX1_told_1 (by decide) ?_
  refine j_iconst X dX1_told_69 ?_
  exact k_ir X rfl h hw dX1_told_70
end
section
variable {p : Program} {l : Launch} {e : Env} {s : State} {m : MethodId} {args : Array Value} {below : List Frame} {meth : Method} {c : Code} {D : va_G} {ct : Nat → ClassId} {ad : Nat → Nat → Nat} {L : List (Nat × Nat)} {φ : Nat → Nat → Nat → Bool} {N0 : Nat}
variable {Q : St → Prop}
set_option maxRecDepth 100000 in
set_option maxHeartbeats 4000000 in
theorem lb_X2_begin_17 (X : Cx p s m meth c args cX2_begin 5 none RX2 D ct L φ N0) : ∀ (n : Nat) (σ : St) (x1 : Int) (x4 : Int) (H : Heap) (locs : List Loc) (ls : Array Slot), wp_X2_begin_17 Q n σ x1 x4 → Hs D ct ad L φ N0 s.heap σ H locs → lv_has ls 5 [(0, .ref (ad 2 0)), (1, .int (iv x1)), (4, .int (iv x4))] → W p l e ({ frames := 0, cells := 0, slots := 0, locals := 0 } : Room) s m args below meth c H locs 0 0 (MQ below (Qv D ct ad L φ N0 Q) args s 0 0 (AA N0)) (F0 m 17 ls []) := by
  have hF := X.2.2.2.2.2.2.2.2.1
  intro n
  induction n with
  | zero => intro σ x1 x4 H locs ls hw; exact hw.elim
  | succ n ih =>
    intro σ x1 x4 H locs ls hw h hl
    unfold wp_X2_begin_17 at hw
    refine lv_iload X.1 X.2.1 dX2_begin_17 (lv_at hl 2 rfl) ?_
    refine j_bipush X dX2_begin_19 (by decide) ?_
    obtain ⟨g_1, hwt, hwf⟩ := hw
    refine j_cmp_ge (tgt := 56) X g_1 ⟨by decide, by decide⟩ dX2_begin_21 (by decide) (fun c_8 => ?_) (fun c_8 => ?_)
    · have hw := hwt c_8
      exact k_vr X h hw dX2_begin_56
    · have hw := hwf c_8
      refine lv_aload_n X.1 X.2.1 dX2_begin_24 rfl (lv_at hl 0 rfl) ?_
      refine r_getR (ci := 2) X inw_2 h (hF.1 2 rfl).1 rfl rfl 2 (by decide) kw_447 rfl ((hF.1 2 rfl).2 2) dX2_begin_25 ?_
      refine lv_iload_n X.1 X.2.1 dX2_begin_28 rfl (lv_at hl 1 rfl) ?_
      refine j_bipush X dX2_begin_29 (by decide) ?_
      refine j_imul X dX2_begin_31 ?_
      refine lv_iload X.1 X.2.1 dX2_begin_32 (lv_at hl 2 rfl) ?_
      refine j_iadd X dX2_begin_34 ?_
      refine j_iconst X dX2_begin_35 ?_
      obtain ⟨g_2, g_3, hw⟩ := hw
      refine r_iast (n := 160) X h (hF.1 26 rfl).1 (fun _ => rfl) (by decide) g_2 g_3 rfl dX2_begin_36 (fun H locs h => ?_)
      obtain ⟨σ_4, eσ_4⟩ : ∃ z : St, z = st σ 26 0 (Int.toNat ((x1 * 40) + x4)) 0 := ⟨_, rfl⟩
      rw [← eσ_4] at h
      have hw := hw σ_4 eσ_4
      refine lv_aload_n X.1 X.2.1 dX2_begin_37 rfl (lv_at hl 0 rfl) ?_
      refine r_getR (ci := 2) X inw_2 h (hF.1 2 rfl).1 rfl rfl 3 (by decide) kw_448 rfl ((hF.1 2 rfl).2 3) dX2_begin_38 ?_
      refine lv_iload_n X.1 X.2.1 dX2_begin_41 rfl (lv_at hl 1 rfl) ?_
      refine j_bipush X dX2_begin_42 (by decide) ?_
      refine j_imul X dX2_begin_44 ?_
      refine lv_iload X.1 X.2.1 dX2_begin_45 (lv_at hl 2 rfl) ?_
      refine j_iadd X dX2_begin_47 ?_
      refine j_iconst X dX2_begin_48 ?_
      obtain ⟨g_5, g_6, hw⟩ := hw
      refine r_zast (n := 160) X h (hF.1 27 rfl).1 (fun _ => rfl) (by decide) g_5 g_6 rfl (by decide) dX2_begin_49 (fun H locs h => ?_)
      obtain ⟨σ_7, eσ_7⟩ : ∃ z : St, z = st σ_4 27 0 (Int.toNat ((x1 * 40) + x4)) 0 := ⟨_, rfl⟩
      rw [← eσ_7] at h
      have hw := hw σ_7 eσ_7
      refine j_iinc (kk9 := 2) (lv' := [(4, .int (iv (x4 + 1))), (0, .ref (ad 2 0)), (1, .int (iv x1))]) X dX2_begin_50 hl rfl (by decide) rfl (fun ls hl => ?_)
      refine lv_goto (tgt := 17) X.1 X.2.1 dX2_begin_53 (by decide) ?_
      exact ih σ_7 x1 (x4 + 1) _ _ _ hw h (lv_sub hl [1, 2, 0] rfl)
theorem pd_X2_begin : yX2_begin.cls ≠ "java/lang/invoke/MethodHandle" ∧ yX2_begin.cls ≠ "java/lang/invoke/VarHandle" ∧ (parseMethodDescriptor yX2_begin.desc).map (fun d => d.parameters.length) = some 3 := by decide +kernel
set_option maxRecDepth 100000 in
set_option maxHeartbeats 4000000 in
theorem c_X2_begin (l : Launch) (D : va_G) (ct : Nat → ClassId) (ad : Nat → Nat → Nat) (L : List (Nat × Nat)) (φ : Nat → Nat → Nat → Bool) (N0 : Nat) (σ : St) (x1 : Int) (x2 : Int) (x3 : Int) (Q : St → Prop) (hw : wp_X2_begin σ x1 x2 x3 Q) : Met l yX2_begin (.code yX2_begin cX2_begin 5 none :: gw) ({ frames := 0, cells := 0, slots := 0, locals := 0 } : Room) (Pm D ct ad L φ N0 σ [.ref (ad 2 0), .int (iv x1), .int (iv x2), .int (iv x3)]) (Qv D ct ad L φ N0 Q) 0 0 (AA N0) := by
  refine m_of (by decide) (fun p e s m below meth c X hnm h => ?_)
  have hF := X.2.2.2.2.2.2.2.2.1
  have hl := lv_entry ([.ref (ad 2 0), .int (iv x1), .int (iv x2), .int (iv x3)]) (n := 5) (Nat.le_of_ble_eq_true rfl)
  rw [lg_entry_eq]
  generalize (lg_sl ([.ref (ad 2 0), .int (iv x1), .int (iv x2), .int (iv x3)]) ++ List.replicate (5 - (lg_sl ([.ref (ad 2 0), .int (iv x1), .int (iv x2), .int (iv x3)])).length) Slot.unset).toArray = ls at hl ⊢
  have hl : lv_has ls 5 [(0, .ref (ad 2 0)), (1, .int (iv x1)), (2, .int (iv x2)), (3, .int (iv x3))] := hl
  have h : Hs D ct ad L φ N0 s.heap σ s.heap [] := h
  unfold wp_X2_begin at hw
  refine lv_aload_n X.1 X.2.1 dX2_begin_0 rfl (lv_at hl 0 rfl) ?_
  refine r_getR (ci := 2) X inw_2 h (hF.1 2 rfl).1 rfl rfl 0 (by decide) kw_445 rfl ((hF.1 2 rfl).2 0) dX2_begin_1 ?_
  refine lv_iload_n X.1 X.2.1 dX2_begin_4 rfl (lv_at hl 1 rfl) ?_
  refine lv_iload_n X.1 X.2.1 dX2_begin_5 rfl (lv_at hl 3 rfl) ?_
  obtain ⟨g_9, g_10, hw⟩ := hw
  refine r_iast (n := 4) X h (hF.1 24 rfl).1 (fun _ => rfl) (by decide) g_9 g_10 rfl dX2_begin_6 (fun H locs h => ?_)
  obtain ⟨σ_11, eσ_11⟩ : ∃ z : St, z = st σ 24 0 (Int.toNat x1) x3 := ⟨_, rfl⟩
  rw [← eσ_11] at h
  have hw := hw σ_11 eσ_11
  refine lv_aload_n X.1 X.2.1 dX2_begin_7 rfl (lv_at hl 0 rfl) ?_
  refine r_getR (ci := 2) X inw_2 h (hF.1 2 rfl).1 rfl rfl 1 (by decide) kw_446 rfl ((hF.1 2 rfl).2 1) dX2_begin_8 ?_
  refine lv_iload_n X.1 X.2.1 dX2_begin_11 rfl (lv_at hl 1 rfl) ?_
  refine lv_iload_n X.1 X.2.1 dX2_begin_12 rfl (lv_at hl 2 rfl) ?_
  obtain ⟨g_12, g_13, g_14, hw⟩ := hw
  refine r_zast (n := 4) X h (hF.1 25 rfl).1 (fun _ => rfl) (by decide) g_12 g_13 rfl (nb_v g_14) dX2_begin_13 (fun H locs h => ?_)
  obtain ⟨σ_15, eσ_15⟩ : ∃ z : St, z = st σ_11 25 0 (Int.toNat x1) x2 := ⟨_, rfl⟩
  rw [← eσ_15] at h
  have hw := hw σ_15 eσ_15
  refine j_iconst X dX2_begin_14 ?_
  refine lv_istore (lv' := [(4, .int (iv 0)), (0, .ref (ad 2 0)), (1, .int (iv x1)), (2, .int (iv x2)), (3, .int (iv x3))]) X.1 X.2.1 dX2_begin_15 hl (by decide) rfl (fun ls hl => ?_)
  exact hw.elim (fun n17 hw => lb_X2_begin_17 X n17 σ_15 x1 0 _ _ _ hw h (lv_sub hl [1, 2, 0] rfl))
end
section
variable {p : Program} {l : Launch} {e : Env} {s : State} {m : MethodId} {args : Array Value} {below : List Frame} {meth : Method} {c : Code} {D : va_G} {ct : Nat → ClassId} {ad : Nat → Nat → Nat} {L : List (Nat × Nat)} {φ : Nat → Nat → Nat → Bool} {N0 : Nat}
variable {Q : Int → St → Prop}
theorem pd_X2_hasRow : yX2_hasRow.cls ≠ "java/lang/invoke/MethodHandle" ∧ yX2_hasRow.cls ≠ "java/lang/invoke/VarHandle" ∧ (parseMethodDescriptor yX2_hasRow.desc).map (fun d => d.parameters.length) = some 1 := by decide +kernel
set_option maxRecDepth 100000 in
set_option maxHeartbeats 4000000 in
theorem c_X2_hasRow (l : Launch) (D : va_G) (ct : Nat → ClassId) (ad : Nat → Nat → Nat) (L : List (Nat × Nat)) (φ : Nat → Nat → Nat → Bool) (N0 : Nat) (σ : St) (x1 : Int) (Q : Int → St → Prop) (hw : wp_X2_hasRow σ x1 Q) : Met l yX2_hasRow (.code yX2_hasRow cX2_hasRow 2 (some .boolean) :: gw) ({ frames := 1, cells := 0, slots := 0, locals := 22 } : Room) (Pm D ct ad L φ N0 σ [.ref (ad 2 0), .int (iv x1)]) (Qi D ct ad L φ N0 Q) 0 0 (AA N0) := by
  refine m_of (by decide) (fun p e s m below meth c X hnm h => ?_)
  have hF := X.2.2.2.2.2.2.2.2.1
  have hl := lv_entry ([.ref (ad 2 0), .int (iv x1)]) (n := 2) (Nat.le_of_ble_eq_true rfl)
  rw [lg_entry_eq]
  generalize (lg_sl ([.ref (ad 2 0), .int (iv x1)]) ++ List.replicate (2 - (lg_sl ([.ref (ad 2 0), .int (iv x1)])).length) Slot.unset).toArray = ls at hl ⊢
  have hl : lv_has ls 2 [(0, .ref (ad 2 0)), (1, .int (iv x1))] := hl
  have h : Hs D ct ad L φ N0 s.heap σ s.heap [] := h
  unfold wp_X2_hasRow at hw
  refine lv_iload_n X.1 X.2.1 dX2_hasRow_0 rfl (lv_at hl 1 rfl) ?_
  refine j_iconst X dX2_hasRow_1 ?_
  refine j_iconst X dX2_hasRow_2 ?_
  refine k_i h (r_SN (As := [.int (iv x1), .int (iv 0), .int (iv 3)]) (rest := []) X h (c_X11_within l D ct ad L φ N0 σ x1 0 3 _ hw) rfl rfl ⟨Nat.le_of_ble_eq_true rfl, Nat.le_of_ble_eq_true rfl⟩ kw_1447 kw_527 kw_120 kw_528 pd_X11_within rfl hl.1 rfl (Nat.le_of_ble_eq_true rfl) ⟨Nat.le_of_ble_eq_true rfl, Nat.le_of_ble_eq_true rfl⟩ dX2_hasRow_3) (fun r_2 σ_1 H locs hw h => ?_)
  obtain ⟨g_3, hwt, hwf⟩ := hw
  refine j_if_eq (tgt := 23) X g_3 dX2_hasRow_6 (by decide) (fun c_8 => ?_) (fun c_8 => ?_)
  · have hw := hwt c_8
    refine j_iconst X dX2_hasRow_23 ?_
    exact k_ir X rfl h hw dX2_hasRow_24
  · have hw := hwf c_8
    refine lv_aload_n X.1 X.2.1 dX2_hasRow_9 rfl (lv_at hl 0 rfl) ?_
    refine r_getR (ci := 2) X inw_2 h (hF.1 2 rfl).1 rfl rfl 0 (by decide) kw_445 rfl ((hF.1 2 rfl).2 0) dX2_hasRow_10 ?_
    refine lv_iload_n X.1 X.2.1 dX2_hasRow_13 rfl (lv_at hl 1 rfl) ?_
    obtain ⟨g_4, g_5, hw⟩ := hw
    refine r_iald (n := 4) X h (hF.1 24 rfl).1 rfl (by decide) g_4 g_5 dX2_hasRow_14 ?_
    refine j_iconst X dX2_hasRow_15 ?_
    obtain ⟨g_6, hwt, hwf⟩ := hw
    refine j_cmp_eq (tgt := 23) X g_6 ⟨by decide, by decide⟩ dX2_hasRow_16 (by decide) (fun c_7 => ?_) (fun c_7 => ?_)
    · have hw := hwt c_7
      refine j_iconst X dX2_hasRow_23 ?_
      exact k_ir X rfl h hw dX2_hasRow_24
    · have hw := hwf c_7
      refine j_iconst X dX2_hasRow_19 ?_
      refine lv_goto (tgt := 24) X.1 X.2.1 dX2_hasRow_20 (by decide) ?_
      exact k_ir X rfl h hw dX2_hasRow_24
end
section
variable {p : Program} {l : Launch} {e : Env} {s : State} {m : MethodId} {args : Array Value} {below : List Frame} {meth : Method} {c : Code} {D : va_G} {ct : Nat → ClassId} {ad : Nat → Nat → Nat} {L : List (Nat × Nat)} {φ : Nat → Nat → Nat → Bool} {N0 : Nat}
variable {Q : Int → St → Prop}
theorem pd_X2_hasPlace : yX2_hasPlace.cls ≠ "java/lang/invoke/MethodHandle" ∧ yX2_hasPlace.cls ≠ "java/lang/invoke/VarHandle" ∧ (parseMethodDescriptor yX2_hasPlace.desc).map (fun d => d.parameters.length) = some 2 := by decide +kernel
set_option maxRecDepth 100000 in
set_option maxHeartbeats 4000000 in
theorem c_X2_hasPlace (l : Launch) (D : va_G) (ct : Nat → ClassId) (ad : Nat → Nat → Nat) (L : List (Nat × Nat)) (φ : Nat → Nat → Nat → Bool) (N0 : Nat) (σ : St) (x1 : Int) (x2 : Int) (Q : Int → St → Prop) (hw : wp_X2_hasPlace σ x1 x2 Q) : Met l yX2_hasPlace (.code yX2_hasPlace cX2_hasPlace 3 (some .boolean) :: gw) ({ frames := 2, cells := 0, slots := 0, locals := 43 } : Room) (Pm D ct ad L φ N0 σ [.ref (ad 2 0), .int (iv x1), .int (iv x2)]) (Qi D ct ad L φ N0 Q) 0 0 (AA N0) := by
  refine m_of (by decide) (fun p e s m below meth c X hnm h => ?_)
  have hF := X.2.2.2.2.2.2.2.2.1
  have hl := lv_entry ([.ref (ad 2 0), .int (iv x1), .int (iv x2)]) (n := 3) (Nat.le_of_ble_eq_true rfl)
  rw [lg_entry_eq]
  generalize (lg_sl ([.ref (ad 2 0), .int (iv x1), .int (iv x2)]) ++ List.replicate (3 - (lg_sl ([.ref (ad 2 0), .int (iv x1), .int (iv x2)])).length) Slot.unset).toArray = ls at hl ⊢
  have hl : lv_has ls 3 [(0, .ref (ad 2 0)), (1, .int (iv x1)), (2, .int (iv x2))] := hl
  have h : Hs D ct ad L φ N0 s.heap σ s.heap [] := h
  unfold wp_X2_hasPlace at hw
  refine lv_aload_n X.1 X.2.1 dX2_hasPlace_0 rfl (lv_at hl 0 rfl) ?_
  refine lv_iload_n X.1 X.2.1 dX2_hasPlace_1 rfl (lv_at hl 1 rfl) ?_
  refine k_i h (r_V (C := RX2) (ci := 2) (As := [.int (iv x1)]) (rest := []) X h (c_X2_hasRow l D ct ad L φ N0 σ x1 _ hw) rfl rfl ⟨Nat.le_of_ble_eq_true rfl, Nat.le_of_ble_eq_true rfl⟩ kw_1443 kw_1444 kw_1445 kw_128 kw_1446 ⟨rfl, pd_X2_hasRow⟩ (hF.1 2 rfl).1 rfl rfl rfl hl.1 rfl (Nat.le_of_ble_eq_true rfl) ⟨Nat.le_of_ble_eq_true rfl, Nat.le_of_ble_eq_true rfl⟩ dX2_hasPlace_2) (fun r_2 σ_1 H locs hw h => ?_)
  obtain ⟨g_3, hwt, hwf⟩ := hw
  refine j_if_eq (tgt := 28) X g_3 dX2_hasPlace_5 (by decide) (fun c_10 => ?_) (fun c_10 => ?_)
  · have hw := hwt c_10
    refine j_iconst X dX2_hasPlace_28 ?_
    exact k_ir X rfl h hw dX2_hasPlace_29
  · have hw := hwf c_10
    refine lv_iload_n X.1 X.2.1 dX2_hasPlace_8 rfl (lv_at hl 2 rfl) ?_
    refine j_iconst X dX2_hasPlace_9 ?_
    refine lv_aload_n X.1 X.2.1 dX2_hasPlace_10 rfl (lv_at hl 0 rfl) ?_
    refine r_getR (ci := 2) X inw_2 h (hF.1 2 rfl).1 rfl rfl 0 (by decide) kw_445 rfl ((hF.1 2 rfl).2 0) dX2_hasPlace_11 ?_
    refine lv_iload_n X.1 X.2.1 dX2_hasPlace_14 rfl (lv_at hl 1 rfl) ?_
    obtain ⟨g_4, g_5, hw⟩ := hw
    refine r_iald (n := 4) X h (hF.1 24 rfl).1 rfl (by decide) g_4 g_5 dX2_hasPlace_15 ?_
    refine j_iconst X dX2_hasPlace_16 ?_
    refine j_isub X dX2_hasPlace_17 ?_
    refine k_i h (r_SN (As := [.int (iv x2), .int (iv 0), .int (iv ((σ_1 24 0 (Int.toNat x1)) - 1))]) (rest := []) X h (c_X11_within l D ct ad L φ N0 σ_1 x2 0 ((σ_1 24 0 (Int.toNat x1)) - 1) _ hw) rfl rfl ⟨Nat.le_of_ble_eq_true rfl, Nat.le_of_ble_eq_true rfl⟩ kw_1447 kw_527 kw_120 kw_528 pd_X11_within rfl hl.1 rfl (Nat.le_of_ble_eq_true rfl) ⟨Nat.le_of_ble_eq_true rfl, Nat.le_of_ble_eq_true rfl⟩ dX2_hasPlace_18) (fun r_7 σ_6 H locs hw h => ?_)
    obtain ⟨g_8, hwt, hwf⟩ := hw
    refine j_if_eq (tgt := 28) X g_8 dX2_hasPlace_21 (by decide) (fun c_9 => ?_) (fun c_9 => ?_)
    · have hw := hwt c_9
      refine j_iconst X dX2_hasPlace_28 ?_
      exact k_ir X rfl h hw dX2_hasPlace_29
    · have hw := hwf c_9
      refine j_iconst X dX2_hasPlace_24 ?_
      refine lv_goto (tgt := 29) X.1 X.2.1 dX2_hasPlace_25 (by decide) ?_
      exact k_ir X rfl h hw dX2_hasPlace_29
end
section
variable {p : Program} {l : Launch} {e : Env} {s : State} {m : MethodId} {args : Array Value} {below : List Frame} {meth : Method} {c : Code} {D : va_G} {ct : Nat → ClassId} {ad : Nat → Nat → Nat} {L : List (Nat × Nat)} {φ : Nat → Nat → Nat → Bool} {N0 : Nat}
variable {Q : Int → St → Prop}
set_option maxRecDepth 100000 in
set_option maxHeartbeats 4000000 in
theorem lb_X2_put_94 (X : Cx p s m meth c args cX2_put 6 (some .boolean) RX2 D ct L φ N0) (σ : St) (y0 : Int) (y1 : Int) (H : Heap) (locs : List Loc) (ls : Array Slot) (hw : wp_X2_put_94 Q σ y0 y1) (h : Hs D ct ad L φ N0 s.heap σ H locs) (hl : lv_has ls 6 []) : W p l e ({ frames := 1, cells := 0, slots := 0, locals := 22 } : Room) s m args below meth c H locs 0 0 (MQ below (Qi D ct ad L φ N0 Q) args s 0 0 (AA N0)) (F0 m 94 ls [.int (iv y0), .int (iv y1), .ref (ad 26 0)]) := by
  have hF := X.2.2.2.2.2.2.2.2.1
  unfold wp_X2_put_94 at hw
  obtain ⟨g_1, g_2, hw⟩ := hw
  refine r_iast (n := 160) X h (hF.1 26 rfl).1 (fun _ => rfl) (by decide) g_1 g_2 rfl dX2_put_94 (fun H locs h => ?_)
  obtain ⟨σ_3, eσ_3⟩ : ∃ z : St, z = st σ 26 0 (Int.toNat y1) y0 := ⟨_, rfl⟩
  rw [← eσ_3] at h
  have hw := hw σ_3 eσ_3
  refine j_iconst X dX2_put_95 ?_
  exact k_ir X rfl h hw dX2_put_96
set_option maxRecDepth 100000 in
set_option maxHeartbeats 4000000 in
theorem lb_X2_put_66 (X : Cx p s m meth c args cX2_put 6 (some .boolean) RX2 D ct L φ N0) (σ : St) (x1 : Int) (x4 : Int) (x5 : Int) (y0 : Int) (y1 : Int) (H : Heap) (locs : List Loc) (ls : Array Slot) (hw : wp_X2_put_66 Q σ x1 x4 x5 y0 y1) (h : Hs D ct ad L φ N0 s.heap σ H locs) (hl : lv_has ls 6 [(0, .ref (ad 2 0)), (1, .int (iv x1)), (4, .int (iv x4)), (5, .int (iv x5))]) : W p l e ({ frames := 1, cells := 0, slots := 0, locals := 22 } : Room) s m args below meth c H locs 0 0 (MQ below (Qi D ct ad L φ N0 Q) args s 0 0 (AA N0)) (F0 m 66 ls [.int (iv y0), .int (iv y1), .ref (ad 27 0)]) := by
  have hF := X.2.2.2.2.2.2.2.2.1
  unfold wp_X2_put_66 at hw
  obtain ⟨g_4, g_5, g_6, hw⟩ := hw
  refine r_zast (n := 160) X h (hF.1 27 rfl).1 (fun _ => rfl) (by decide) g_4 g_5 rfl (nb_v g_6) dX2_put_66 (fun H locs h => ?_)
  obtain ⟨σ_7, eσ_7⟩ : ∃ z : St, z = st σ 27 0 (Int.toNat y1) y0 := ⟨_, rfl⟩
  rw [← eσ_7] at h
  have hw := hw σ_7 eσ_7
  refine lv_aload_n X.1 X.2.1 dX2_put_67 rfl (lv_at hl 0 rfl) ?_
  refine r_getR (ci := 2) X inw_2 h (hF.1 2 rfl).1 rfl rfl 2 (by decide) kw_447 rfl ((hF.1 2 rfl).2 2) dX2_put_68 ?_
  refine lv_iload X.1 X.2.1 dX2_put_71 (lv_at hl 3 rfl) ?_
  refine lv_aload_n X.1 X.2.1 dX2_put_73 rfl (lv_at hl 0 rfl) ?_
  refine r_getR (ci := 2) X inw_2 h (hF.1 2 rfl).1 rfl rfl 1 (by decide) kw_446 rfl ((hF.1 2 rfl).2 1) dX2_put_74 ?_
  refine lv_iload_n X.1 X.2.1 dX2_put_77 rfl (lv_at hl 1 rfl) ?_
  obtain ⟨g_8, g_9, hw⟩ := hw
  refine r_zald (n := 4) X h (hF.1 25 rfl).1 rfl (by decide) g_8 g_9 dX2_put_78 ?_
  obtain ⟨g_10, hwt, hwf⟩ := hw
  refine j_if_eq (tgt := 89) X g_10 dX2_put_79 (by decide) (fun c_11 => ?_) (fun c_11 => ?_)
  · have hw := hwt c_11
    refine j_bipush X dX2_put_89 (by decide) ?_
    refine lv_iload X.1 X.2.1 dX2_put_91 (lv_at hl 2 rfl) ?_
    refine j_imul X dX2_put_93 ?_
    exact lb_X2_put_94 X σ_7 (8 * x4) x5 _ _ _ hw h (lv_sub hl [] rfl)
  · have hw := hwf c_11
    refine j_iconst X dX2_put_82 ?_
    refine lv_iload X.1 X.2.1 dX2_put_83 (lv_at hl 2 rfl) ?_
    refine j_imul X dX2_put_85 ?_
    refine lv_goto (tgt := 94) X.1 X.2.1 dX2_put_86 (by decide) ?_
    exact lb_X2_put_94 X σ_7 (2 * x4) x5 _ _ _ hw h (lv_sub hl [] rfl)
set_option maxRecDepth 100000 in
set_option maxHeartbeats 4000000 in
theorem lb_X2_put_37 (X : Cx p s m meth c args cX2_put 6 (some .boolean) RX2 D ct L φ N0) (σ : St) (x1 : Int) (x2 : Int) (y0 : Int) (H : Heap) (locs : List Loc) (ls : Array Slot) (hw : wp_X2_put_37 Q σ x1 x2 y0) (h : Hs D ct ad L φ N0 s.heap σ H locs) (hl : lv_has ls 6 [(0, .ref (ad 2 0)), (1, .int (iv x1)), (2, .int (iv x2))]) : W p l e ({ frames := 1, cells := 0, slots := 0, locals := 22 } : Room) s m args below meth c H locs 0 0 (MQ below (Qi D ct ad L φ N0 Q) args s 0 0 (AA N0)) (F0 m 37 ls [.int (iv y0)]) := by
  have hF := X.2.2.2.2.2.2.2.2.1
  unfold wp_X2_put_37 at hw
  refine lv_istore (lv' := [(4, .int (iv y0)), (0, .ref (ad 2 0)), (1, .int (iv x1)), (2, .int (iv x2))]) X.1 X.2.1 dX2_put_37 hl (by decide) rfl (fun ls hl => ?_)
  refine lv_iload_n X.1 X.2.1 dX2_put_39 rfl (lv_at hl 2 rfl) ?_
  refine j_bipush X dX2_put_40 (by decide) ?_
  refine j_imul X dX2_put_42 ?_
  refine lv_iload_n X.1 X.2.1 dX2_put_43 rfl (lv_at hl 3 rfl) ?_
  refine j_iadd X dX2_put_44 ?_
  refine j_bind (fun v_12 ev_12 => ?_)
  have hw := hw v_12 ev_12
  refine lv_istore (lv' := [(5, .int (iv v_12)), (4, .int (iv y0)), (0, .ref (ad 2 0)), (1, .int (iv x1)), (2, .int (iv x2))]) X.1 X.2.1 dX2_put_45 hl (by decide) rfl (fun ls hl => ?_)
  refine lv_aload_n X.1 X.2.1 dX2_put_47 rfl (lv_at hl 2 rfl) ?_
  refine r_getR (ci := 2) X inw_2 h (hF.1 2 rfl).1 rfl rfl 3 (by decide) kw_448 rfl ((hF.1 2 rfl).2 3) dX2_put_48 ?_
  refine lv_iload X.1 X.2.1 dX2_put_51 (lv_at hl 0 rfl) ?_
  refine lv_iload X.1 X.2.1 dX2_put_53 (lv_at hl 1 rfl) ?_
  refine j_sipush X dX2_put_55 (by decide) ?_
  obtain ⟨g_13, hwt, hwf⟩ := hw
  refine j_cmp_ne (tgt := 65) X g_13 ⟨by decide, by decide⟩ dX2_put_58 (by decide) (fun c_14 => ?_) (fun c_14 => ?_)
  · have hw := hwt c_14
    refine j_iconst X dX2_put_65 ?_
    exact lb_X2_put_66 X σ x1 y0 v_12 0 v_12 _ _ _ hw h (lv_sub hl [2, 3, 1, 0] rfl)
  · have hw := hwf c_14
    refine j_iconst X dX2_put_61 ?_
    refine lv_goto (tgt := 66) X.1 X.2.1 dX2_put_62 (by decide) ?_
    exact lb_X2_put_66 X σ x1 y0 v_12 1 v_12 _ _ _ hw h (lv_sub hl [2, 3, 1, 0] rfl)
set_option maxRecDepth 100000 in
set_option maxHeartbeats 4000000 in
theorem lb_X2_put_22 (X : Cx p s m meth c args cX2_put 6 (some .boolean) RX2 D ct L φ N0) (σ : St) (x1 : Int) (x2 : Int) (x3 : Int) (H : Heap) (locs : List Loc) (ls : Array Slot) (hw : wp_X2_put_22 Q σ x1 x2 x3) (h : Hs D ct ad L φ N0 s.heap σ H locs) (hl : lv_has ls 6 [(0, .ref (ad 2 0)), (1, .int (iv x1)), (2, .int (iv x2)), (3, .int (iv x3))]) : W p l e ({ frames := 1, cells := 0, slots := 0, locals := 22 } : Room) s m args below meth c H locs 0 0 (MQ below (Qi D ct ad L φ N0 Q) args s 0 0 (AA N0)) (F0 m 22 ls []) := by
  have hF := X.2.2.2.2.2.2.2.2.1
  unfold wp_X2_put_22 at hw
  refine lv_aload_n X.1 X.2.1 dX2_put_22 rfl (lv_at hl 0 rfl) ?_
  refine r_getR (ci := 2) X inw_2 h (hF.1 2 rfl).1 rfl rfl 1 (by decide) kw_446 rfl ((hF.1 2 rfl).2 1) dX2_put_23 ?_
  refine lv_iload_n X.1 X.2.1 dX2_put_26 rfl (lv_at hl 1 rfl) ?_
  obtain ⟨g_15, g_16, hw⟩ := hw
  refine r_zald (n := 4) X h (hF.1 25 rfl).1 rfl (by decide) g_15 g_16 dX2_put_27 ?_
  obtain ⟨g_17, hwt, hwf⟩ := hw
  refine j_if_eq (tgt := 35) X g_17 dX2_put_28 (by decide) (fun c_18 => ?_) (fun c_18 => ?_)
  · have hw := hwt c_18
    refine lv_iload_n X.1 X.2.1 dX2_put_35 rfl (lv_at hl 3 rfl) ?_
    refine j_i2s X dX2_put_36 ?_
    exact lb_X2_put_37 X σ x1 x2 (i_i2s x3) _ _ _ hw h (lv_sub hl [0, 1, 2] rfl)
  · have hw := hwf c_18
    refine lv_iload_n X.1 X.2.1 dX2_put_31 rfl (lv_at hl 3 rfl) ?_
    refine lv_goto (tgt := 37) X.1 X.2.1 dX2_put_32 (by decide) ?_
    exact lb_X2_put_37 X σ x1 x2 x3 _ _ _ hw h (lv_sub hl [0, 1, 2] rfl)
theorem pd_X2_put : yX2_put.cls ≠ "java/lang/invoke/MethodHandle" ∧ yX2_put.cls ≠ "java/lang/invoke/VarHandle" ∧ (parseMethodDescriptor yX2_put.desc).map (fun d => d.parameters.length) = some 3 := by decide +kernel
set_option maxRecDepth 100000 in
set_option maxHeartbeats 4000000 in
theorem c_X2_put (l : Launch) (D : va_G) (ct : Nat → ClassId) (ad : Nat → Nat → Nat) (L : List (Nat × Nat)) (φ : Nat → Nat → Nat → Bool) (N0 : Nat) (σ : St) (x1 : Int) (x2 : Int) (x3 : Int) (Q : Int → St → Prop) (hw : wp_X2_put σ x1 x2 x3 Q) : Met l yX2_put (.code yX2_put cX2_put 6 (some .boolean) :: gw) ({ frames := 1, cells := 0, slots := 0, locals := 22 } : Room) (Pm D ct ad L φ N0 σ [.ref (ad 2 0), .int (iv x1), .int (iv x2), .int (iv x3)]) (Qi D ct ad L φ N0 Q) 0 0 (AA N0) := by
  refine m_of (by decide) (fun p e s m below meth c X hnm h => ?_)
  have hF := X.2.2.2.2.2.2.2.2.1
  have hl := lv_entry ([.ref (ad 2 0), .int (iv x1), .int (iv x2), .int (iv x3)]) (n := 6) (Nat.le_of_ble_eq_true rfl)
  rw [lg_entry_eq]
  generalize (lg_sl ([.ref (ad 2 0), .int (iv x1), .int (iv x2), .int (iv x3)]) ++ List.replicate (6 - (lg_sl ([.ref (ad 2 0), .int (iv x1), .int (iv x2), .int (iv x3)])).length) Slot.unset).toArray = ls at hl ⊢
  have hl : lv_has ls 6 [(0, .ref (ad 2 0)), (1, .int (iv x1)), (2, .int (iv x2)), (3, .int (iv x3))] := hl
  have h : Hs D ct ad L φ N0 s.heap σ s.heap [] := h
  unfold wp_X2_put at hw
  refine lv_aload_n X.1 X.2.1 dX2_put_0 rfl (lv_at hl 0 rfl) ?_
  refine r_getR (ci := 2) X inw_2 h (hF.1 2 rfl).1 rfl rfl 1 (by decide) kw_446 rfl ((hF.1 2 rfl).2 1) dX2_put_1 ?_
  refine lv_iload_n X.1 X.2.1 dX2_put_4 rfl (lv_at hl 1 rfl) ?_
  obtain ⟨g_19, g_20, hw⟩ := hw
  refine r_zald (n := 4) X h (hF.1 25 rfl).1 rfl (by decide) g_19 g_20 dX2_put_5 ?_
  obtain ⟨g_21, hwt, hwf⟩ := hw
  refine j_if_eq (tgt := 22) X g_21 dX2_put_6 (by decide) (fun c_26 => ?_) (fun c_26 => ?_)
  · have hw := hwt c_26
    exact lb_X2_put_22 X σ x1 x2 x3 _ _ _ hw h (lv_sub hl [0, 1, 2, 3] rfl)
  · have hw := hwf c_26
    refine lv_iload_n X.1 X.2.1 dX2_put_9 rfl (lv_at hl 3 rfl) ?_
    refine j_ldc (n := (-1000000)) X kw_1452 (by decide) dX2_put_10 ?_
    refine j_ldc (n := 1000000) X kw_1453 (by decide) dX2_put_12 ?_
    refine k_i h (r_SN (As := [.int (iv x3), .int (iv (-1000000)), .int (iv 1000000)]) (rest := []) X h (c_X11_within l D ct ad L φ N0 σ x3 (-1000000) 1000000 _ hw) rfl rfl ⟨Nat.le_of_ble_eq_true rfl, Nat.le_of_ble_eq_true rfl⟩ kw_1447 kw_527 kw_120 kw_528 pd_X11_within rfl hl.1 rfl (Nat.le_of_ble_eq_true rfl) ⟨Nat.le_of_ble_eq_true rfl, Nat.le_of_ble_eq_true rfl⟩ dX2_put_14) (fun r_23 σ_22 H locs hw h => ?_)
    obtain ⟨g_24, hwt, hwf⟩ := hw
    refine j_if_ne (tgt := 22) X g_24 dX2_put_17 (by decide) (fun c_25 => ?_) (fun c_25 => ?_)
    · have hw := hwt c_25
      exact lb_X2_put_22 X σ_22 x1 x2 x3 _ _ _ hw h (lv_sub hl [0, 1, 2, 3] rfl)
    · have hw := hwf c_25
      refine j_iconst X dX2_put_20 ?_
      exact k_ir X rfl h hw dX2_put_21
end
section
variable {p : Program} {l : Launch} {e : Env} {s : State} {m : MethodId} {args : Array Value} {below : List Frame} {meth : Method} {c : Code} {D : va_G} {ct : Nat → ClassId} {ad : Nat → Nat → Nat} {L : List (Nat × Nat)} {φ : Nat → Nat → Nat → Bool} {N0 : Nat}
variable {Q : Int → St → Prop}
set_option maxRecDepth 100000 in
set_option maxHeartbeats 4000000 in
theorem lb_X2_nextFrom_26 (X : Cx p s m meth c args cX2_nextFrom 4 (some .int) RX2 D ct L φ N0) (σ : St) (x1 : Int) (x3 : Int) (H : Heap) (locs : List Loc) (ls : Array Slot) (hw : wp_X2_nextFrom_26 Q σ x1 x3) (h : Hs D ct ad L φ N0 s.heap σ H locs) (hl : lv_has ls 4 [(1, .int (iv x1)), (3, .int (iv x3))]) : W p l e ({ frames := 0, cells := 0, slots := 0, locals := 0 } : Room) s m args below meth c H locs 0 0 (MQ below (Qi D ct ad L φ N0 Q) args s 0 0 (AA N0)) (F0 m 26 ls []) := by
  have hF := X.2.2.2.2.2.2.2.2.1
  unfold wp_X2_nextFrom_26 at hw
  refine lv_iload_n X.1 X.2.1 dX2_nextFrom_26 rfl (lv_at hl 0 rfl) ?_
  refine j_bipush X dX2_nextFrom_27 (by decide) ?_
  refine j_imul X dX2_nextFrom_29 ?_
  refine lv_iload_n X.1 X.2.1 dX2_nextFrom_30 rfl (lv_at hl 1 rfl) ?_
  refine j_iadd X dX2_nextFrom_31 ?_
  exact k_ir X rfl h hw dX2_nextFrom_32
set_option maxRecDepth 100000 in
set_option maxHeartbeats 4000000 in
theorem lb_X2_nextFrom_2 (X : Cx p s m meth c args cX2_nextFrom 4 (some .int) RX2 D ct L φ N0) {K26 : St → Int → Int → Prop} (hK26 : ∀ (σ : St) (x1 : Int) (x3 : Int) (H : Heap) (locs : List Loc) (ls : Array Slot), K26 σ x1 x3 → Hs D ct ad L φ N0 s.heap σ H locs → lv_has ls 4 [(1, .int (iv x1)), (3, .int (iv x3))] → W p l e ({ frames := 0, cells := 0, slots := 0, locals := 0 } : Room) s m args below meth c H locs 0 0 (MQ below (Qi D ct ad L φ N0 Q) args s 0 0 (AA N0)) (F0 m 26 ls [])) : ∀ (n : Nat) (σ : St) (x1 : Int) (x3 : Int) (H : Heap) (locs : List Loc) (ls : Array Slot), wp_X2_nextFrom_2 K26 Q n σ x1 x3 → Hs D ct ad L φ N0 s.heap σ H locs → lv_has ls 4 [(0, .ref (ad 2 0)), (1, .int (iv x1)), (3, .int (iv x3))] → W p l e ({ frames := 0, cells := 0, slots := 0, locals := 0 } : Room) s m args below meth c H locs 0 0 (MQ below (Qi D ct ad L φ N0 Q) args s 0 0 (AA N0)) (F0 m 2 ls []) := by
  have hF := X.2.2.2.2.2.2.2.2.1
  intro n
  induction n with
  | zero => intro σ x1 x3 H locs ls hw; exact hw.elim
  | succ n ih =>
    intro σ x1 x3 H locs ls hw h hl
    unfold wp_X2_nextFrom_2 at hw
    refine lv_iload_n X.1 X.2.1 dX2_nextFrom_2 rfl (lv_at hl 2 rfl) ?_
    refine lv_aload_n X.1 X.2.1 dX2_nextFrom_3 rfl (lv_at hl 0 rfl) ?_
    refine r_getR (ci := 2) X inw_2 h (hF.1 2 rfl).1 rfl rfl 0 (by decide) kw_445 rfl ((hF.1 2 rfl).2 0) dX2_nextFrom_4 ?_
    refine lv_iload_n X.1 X.2.1 dX2_nextFrom_7 rfl (lv_at hl 1 rfl) ?_
    obtain ⟨g_1, g_2, hw⟩ := hw
    refine r_iald (n := 4) X h (hF.1 24 rfl).1 rfl (by decide) g_1 g_2 dX2_nextFrom_8 ?_
    obtain ⟨g_3, g_4, hwt, hwf⟩ := hw
    refine j_cmp_ge (tgt := 39) X g_3 g_4 dX2_nextFrom_9 (by decide) (fun c_9 => ?_) (fun c_9 => ?_)
    · have hw := hwt c_9
      refine j_iconst X dX2_nextFrom_39 ?_
      exact k_ir X rfl h hw dX2_nextFrom_40
    · have hw := hwf c_9
      refine lv_aload_n X.1 X.2.1 dX2_nextFrom_12 rfl (lv_at hl 0 rfl) ?_
      refine r_getR (ci := 2) X inw_2 h (hF.1 2 rfl).1 rfl rfl 3 (by decide) kw_448 rfl ((hF.1 2 rfl).2 3) dX2_nextFrom_13 ?_
      refine lv_iload_n X.1 X.2.1 dX2_nextFrom_16 rfl (lv_at hl 1 rfl) ?_
      refine j_bipush X dX2_nextFrom_17 (by decide) ?_
      refine j_imul X dX2_nextFrom_19 ?_
      refine lv_iload_n X.1 X.2.1 dX2_nextFrom_20 rfl (lv_at hl 2 rfl) ?_
      refine j_iadd X dX2_nextFrom_21 ?_
      obtain ⟨g_5, g_6, hw⟩ := hw
      refine r_zald (n := 160) X h (hF.1 27 rfl).1 rfl (by decide) g_5 g_6 dX2_nextFrom_22 ?_
      obtain ⟨g_7, hwt, hwf⟩ := hw
      refine j_if_ne (tgt := 33) X g_7 dX2_nextFrom_23 (by decide) (fun c_8 => ?_) (fun c_8 => ?_)
      · have hw := hwt c_8
        refine j_iinc (kk9 := 2) (lv' := [(3, .int (iv (x3 + 1))), (0, .ref (ad 2 0)), (1, .int (iv x1))]) X dX2_nextFrom_33 hl rfl (by decide) rfl (fun ls hl => ?_)
        refine lv_goto (tgt := 2) X.1 X.2.1 dX2_nextFrom_36 (by decide) ?_
        exact ih σ x1 (x3 + 1) _ _ _ hw h (lv_sub hl [1, 2, 0] rfl)
      · have hw := hwf c_8
        exact hK26 σ x1 x3 _ _ _ hw h (lv_sub hl [1, 2] rfl)
theorem pd_X2_nextFrom : yX2_nextFrom.cls ≠ "java/lang/invoke/MethodHandle" ∧ yX2_nextFrom.cls ≠ "java/lang/invoke/VarHandle" ∧ (parseMethodDescriptor yX2_nextFrom.desc).map (fun d => d.parameters.length) = some 2 := by decide +kernel
set_option maxRecDepth 100000 in
set_option maxHeartbeats 4000000 in
theorem c_X2_nextFrom (l : Launch) (D : va_G) (ct : Nat → ClassId) (ad : Nat → Nat → Nat) (L : List (Nat × Nat)) (φ : Nat → Nat → Nat → Bool) (N0 : Nat) (σ : St) (x1 : Int) (x2 : Int) (Q : Int → St → Prop) (hw : wp_X2_nextFrom σ x1 x2 Q) : Met l yX2_nextFrom (.code yX2_nextFrom cX2_nextFrom 4 (some .int) :: gw) ({ frames := 0, cells := 0, slots := 0, locals := 0 } : Room) (Pm D ct ad L φ N0 σ [.ref (ad 2 0), .int (iv x1), .int (iv x2)]) (Qi D ct ad L φ N0 Q) 0 0 (AA N0) := by
  refine m_of (by decide) (fun p e s m below meth c X hnm h => ?_)
  have hF := X.2.2.2.2.2.2.2.2.1
  have hl := lv_entry ([.ref (ad 2 0), .int (iv x1), .int (iv x2)]) (n := 4) (Nat.le_of_ble_eq_true rfl)
  rw [lg_entry_eq]
  generalize (lg_sl ([.ref (ad 2 0), .int (iv x1), .int (iv x2)]) ++ List.replicate (4 - (lg_sl ([.ref (ad 2 0), .int (iv x1), .int (iv x2)])).length) Slot.unset).toArray = ls at hl ⊢
  have hl : lv_has ls 4 [(0, .ref (ad 2 0)), (1, .int (iv x1)), (2, .int (iv x2))] := hl
  have h : Hs D ct ad L φ N0 s.heap σ s.heap [] := h
  unfold wp_X2_nextFrom at hw
  refine lv_iload_n X.1 X.2.1 dX2_nextFrom_0 rfl (lv_at hl 2 rfl) ?_
  refine lv_istore_n (lv' := [(3, .int (iv x2)), (0, .ref (ad 2 0)), (1, .int (iv x1)), (2, .int (iv x2))]) X.1 X.2.1 dX2_nextFrom_1 rfl hl (by decide) rfl (fun ls hl => ?_)
  exact hw.elim (fun n2 hw => lb_X2_nextFrom_2 X (lb_X2_nextFrom_26 X) n2 σ x1 x2 _ _ _ hw h (lv_sub hl [1, 2, 0] rfl))
end
section
variable {p : Program} {l : Launch} {e : Env} {s : State} {m : MethodId} {args : Array Value} {below : List Frame} {meth : Method} {c : Code} {D : va_G} {ct : Nat → ClassId} {ad : Nat → Nat → Nat} {L : List (Nat × Nat)} {φ : Nat → Nat → Nat → Bool} {N0 : Nat}
variable {Q : Int → St → Prop}
theorem pd_X2_hasNumber : yX2_hasNumber.cls ≠ "java/lang/invoke/MethodHandle" ∧ yX2_hasNumber.cls ≠ "java/lang/invoke/VarHandle" ∧ (parseMethodDescriptor yX2_hasNumber.desc).map (fun d => d.parameters.length) = some 1 := by decide +kernel
set_option maxRecDepth 100000 in
set_option maxHeartbeats 4000000 in
theorem c_X2_hasNumber (l : Launch) (D : va_G) (ct : Nat → ClassId) (ad : Nat → Nat → Nat) (L : List (Nat × Nat)) (φ : Nat → Nat → Nat → Bool) (N0 : Nat) (σ : St) (x1 : Int) (Q : Int → St → Prop) (hw : wp_X2_hasNumber σ x1 Q) : Met l yX2_hasNumber (.code yX2_hasNumber cX2_hasNumber 2 (some .boolean) :: gw) ({ frames := 1, cells := 0, slots := 0, locals := 23 } : Room) (Pm D ct ad L φ N0 σ [.ref (ad 2 0), .int (iv x1)]) (Qi D ct ad L φ N0 Q) 0 0 (AA N0) := by
  refine m_of (by decide) (fun p e s m below meth c X hnm h => ?_)
  have hF := X.2.2.2.2.2.2.2.2.1
  have hl := lv_entry ([.ref (ad 2 0), .int (iv x1)]) (n := 2) (Nat.le_of_ble_eq_true rfl)
  rw [lg_entry_eq]
  generalize (lg_sl ([.ref (ad 2 0), .int (iv x1)]) ++ List.replicate (2 - (lg_sl ([.ref (ad 2 0), .int (iv x1)])).length) Slot.unset).toArray = ls at hl ⊢
  have hl : lv_has ls 2 [(0, .ref (ad 2 0)), (1, .int (iv x1))] := hl
  have h : Hs D ct ad L φ N0 s.heap σ s.heap [] := h
  unfold wp_X2_hasNumber at hw
  refine lv_aload_n X.1 X.2.1 dX2_hasNumber_0 rfl (lv_at hl 0 rfl) ?_
  refine lv_iload_n X.1 X.2.1 dX2_hasNumber_1 rfl (lv_at hl 1 rfl) ?_
  refine j_iconst X dX2_hasNumber_2 ?_
  refine k_i h (r_V (C := RX2) (ci := 2) (As := [.int (iv x1), .int (iv 0)]) (rest := []) X h (c_X2_nextFrom l D ct ad L φ N0 σ x1 0 _ hw) rfl rfl ⟨Nat.le_of_ble_eq_true rfl, Nat.le_of_ble_eq_true rfl⟩ kw_1463 kw_1465 kw_57 kw_128 kw_1466 ⟨rfl, pd_X2_nextFrom⟩ (hF.1 2 rfl).1 rfl rfl rfl hl.1 rfl (Nat.le_of_ble_eq_true rfl) ⟨Nat.le_of_ble_eq_true rfl, Nat.le_of_ble_eq_true rfl⟩ dX2_hasNumber_3) (fun r_2 σ_1 H locs hw h => ?_)
  refine j_iconst X dX2_hasNumber_6 ?_
  obtain ⟨g_3, hwt, hwf⟩ := hw
  refine j_cmp_eq (tgt := 14) X g_3 ⟨by decide, by decide⟩ dX2_hasNumber_7 (by decide) (fun c_4 => ?_) (fun c_4 => ?_)
  · have hw := hwt c_4
    refine j_iconst X dX2_hasNumber_14 ?_
    exact k_ir X rfl h hw dX2_hasNumber_15
  · have hw := hwf c_4
    refine j_iconst X dX2_hasNumber_10 ?_
    refine lv_goto (tgt := 15) X.1 X.2.1 dX2_hasNumber_11 (by decide) ?_
    exact k_ir X rfl h hw dX2_hasNumber_15
end
section
variable {p : Program} {l : Launch} {e : Env} {s : State} {m : MethodId} {args : Array Value} {below : List Frame} {meth : Method} {c : Code} {D : va_G} {ct : Nat → ClassId} {ad : Nat → Nat → Nat} {L : List (Nat × Nat)} {φ : Nat → Nat → Nat → Bool} {N0 : Nat}
variable {Q : Int → St → Prop}
set_option maxRecDepth 100000 in
set_option maxHeartbeats 4000000 in
theorem lb_X2_lastUpTo_20 (X : Cx p s m meth c args cX2_lastUpTo 4 (some .int) RX2 D ct L φ N0) (σ : St) (x1 : Int) (x3 : Int) (H : Heap) (locs : List Loc) (ls : Array Slot) (hw : wp_X2_lastUpTo_20 Q σ x1 x3) (h : Hs D ct ad L φ N0 s.heap σ H locs) (hl : lv_has ls 4 [(1, .int (iv x1)), (3, .int (iv x3))]) : W p l e ({ frames := 0, cells := 0, slots := 0, locals := 0 } : Room) s m args below meth c H locs 0 0 (MQ below (Qi D ct ad L φ N0 Q) args s 0 0 (AA N0)) (F0 m 20 ls []) := by
  have hF := X.2.2.2.2.2.2.2.2.1
  unfold wp_X2_lastUpTo_20 at hw
  refine lv_iload_n X.1 X.2.1 dX2_lastUpTo_20 rfl (lv_at hl 0 rfl) ?_
  refine j_bipush X dX2_lastUpTo_21 (by decide) ?_
  refine j_imul X dX2_lastUpTo_23 ?_
  refine lv_iload_n X.1 X.2.1 dX2_lastUpTo_24 rfl (lv_at hl 1 rfl) ?_
  refine j_iadd X dX2_lastUpTo_25 ?_
  exact k_ir X rfl h hw dX2_lastUpTo_26
set_option maxRecDepth 100000 in
set_option maxHeartbeats 4000000 in
theorem lb_X2_lastUpTo_2 (X : Cx p s m meth c args cX2_lastUpTo 4 (some .int) RX2 D ct L φ N0) {K20 : St → Int → Int → Prop} (hK20 : ∀ (σ : St) (x1 : Int) (x3 : Int) (H : Heap) (locs : List Loc) (ls : Array Slot), K20 σ x1 x3 → Hs D ct ad L φ N0 s.heap σ H locs → lv_has ls 4 [(1, .int (iv x1)), (3, .int (iv x3))] → W p l e ({ frames := 0, cells := 0, slots := 0, locals := 0 } : Room) s m args below meth c H locs 0 0 (MQ below (Qi D ct ad L φ N0 Q) args s 0 0 (AA N0)) (F0 m 20 ls [])) : ∀ (n : Nat) (σ : St) (x1 : Int) (x3 : Int) (H : Heap) (locs : List Loc) (ls : Array Slot), wp_X2_lastUpTo_2 K20 Q n σ x1 x3 → Hs D ct ad L φ N0 s.heap σ H locs → lv_has ls 4 [(0, .ref (ad 2 0)), (1, .int (iv x1)), (3, .int (iv x3))] → W p l e ({ frames := 0, cells := 0, slots := 0, locals := 0 } : Room) s m args below meth c H locs 0 0 (MQ below (Qi D ct ad L φ N0 Q) args s 0 0 (AA N0)) (F0 m 2 ls []) := by
  have hF := X.2.2.2.2.2.2.2.2.1
  intro n
  induction n with
  | zero => intro σ x1 x3 H locs ls hw; exact hw.elim
  | succ n ih =>
    intro σ x1 x3 H locs ls hw h hl
    unfold wp_X2_lastUpTo_2 at hw
    refine lv_iload_n X.1 X.2.1 dX2_lastUpTo_2 rfl (lv_at hl 2 rfl) ?_
    obtain ⟨g_1, hwt, hwf⟩ := hw
    refine j_if_lt (tgt := 33) X g_1 dX2_lastUpTo_3 (by decide) (fun c_6 => ?_) (fun c_6 => ?_)
    · have hw := hwt c_6
      refine j_iconst X dX2_lastUpTo_33 ?_
      exact k_ir X rfl h hw dX2_lastUpTo_34
    · have hw := hwf c_6
      refine lv_aload_n X.1 X.2.1 dX2_lastUpTo_6 rfl (lv_at hl 0 rfl) ?_
      refine r_getR (ci := 2) X inw_2 h (hF.1 2 rfl).1 rfl rfl 3 (by decide) kw_448 rfl ((hF.1 2 rfl).2 3) dX2_lastUpTo_7 ?_
      refine lv_iload_n X.1 X.2.1 dX2_lastUpTo_10 rfl (lv_at hl 1 rfl) ?_
      refine j_bipush X dX2_lastUpTo_11 (by decide) ?_
      refine j_imul X dX2_lastUpTo_13 ?_
      refine lv_iload_n X.1 X.2.1 dX2_lastUpTo_14 rfl (lv_at hl 2 rfl) ?_
      refine j_iadd X dX2_lastUpTo_15 ?_
      obtain ⟨g_2, g_3, hw⟩ := hw
      refine r_zald (n := 160) X h (hF.1 27 rfl).1 rfl (by decide) g_2 g_3 dX2_lastUpTo_16 ?_
      obtain ⟨g_4, hwt, hwf⟩ := hw
      refine j_if_ne (tgt := 27) X g_4 dX2_lastUpTo_17 (by decide) (fun c_5 => ?_) (fun c_5 => ?_)
      · have hw := hwt c_5
        refine j_iinc (kk9 := 2) (lv' := [(3, .int (iv (x3 + (-1)))), (0, .ref (ad 2 0)), (1, .int (iv x1))]) X dX2_lastUpTo_27 hl rfl (by decide) rfl (fun ls hl => ?_)
        refine lv_goto (tgt := 2) X.1 X.2.1 dX2_lastUpTo_30 (by decide) ?_
        exact ih σ x1 (x3 + (-1)) _ _ _ hw h (lv_sub hl [1, 2, 0] rfl)
      · have hw := hwf c_5
        exact hK20 σ x1 x3 _ _ _ hw h (lv_sub hl [1, 2] rfl)
theorem pd_X2_lastUpTo : yX2_lastUpTo.cls ≠ "java/lang/invoke/MethodHandle" ∧ yX2_lastUpTo.cls ≠ "java/lang/invoke/VarHandle" ∧ (parseMethodDescriptor yX2_lastUpTo.desc).map (fun d => d.parameters.length) = some 2 := by decide +kernel
set_option maxRecDepth 100000 in
set_option maxHeartbeats 4000000 in
theorem c_X2_lastUpTo (l : Launch) (D : va_G) (ct : Nat → ClassId) (ad : Nat → Nat → Nat) (L : List (Nat × Nat)) (φ : Nat → Nat → Nat → Bool) (N0 : Nat) (σ : St) (x1 : Int) (x2 : Int) (Q : Int → St → Prop) (hw : wp_X2_lastUpTo σ x1 x2 Q) : Met l yX2_lastUpTo (.code yX2_lastUpTo cX2_lastUpTo 4 (some .int) :: gw) ({ frames := 0, cells := 0, slots := 0, locals := 0 } : Room) (Pm D ct ad L φ N0 σ [.ref (ad 2 0), .int (iv x1), .int (iv x2)]) (Qi D ct ad L φ N0 Q) 0 0 (AA N0) := by
  refine m_of (by decide) (fun p e s m below meth c X hnm h => ?_)
  have hF := X.2.2.2.2.2.2.2.2.1
  have hl := lv_entry ([.ref (ad 2 0), .int (iv x1), .int (iv x2)]) (n := 4) (Nat.le_of_ble_eq_true rfl)
  rw [lg_entry_eq]
  generalize (lg_sl ([.ref (ad 2 0), .int (iv x1), .int (iv x2)]) ++ List.replicate (4 - (lg_sl ([.ref (ad 2 0), .int (iv x1), .int (iv x2)])).length) Slot.unset).toArray = ls at hl ⊢
  have hl : lv_has ls 4 [(0, .ref (ad 2 0)), (1, .int (iv x1)), (2, .int (iv x2))] := hl
  have h : Hs D ct ad L φ N0 s.heap σ s.heap [] := h
  unfold wp_X2_lastUpTo at hw
  refine lv_iload_n X.1 X.2.1 dX2_lastUpTo_0 rfl (lv_at hl 2 rfl) ?_
  refine lv_istore_n (lv' := [(3, .int (iv x2)), (0, .ref (ad 2 0)), (1, .int (iv x1)), (2, .int (iv x2))]) X.1 X.2.1 dX2_lastUpTo_1 rfl hl (by decide) rfl (fun ls hl => ?_)
  exact hw.elim (fun n2 hw => lb_X2_lastUpTo_2 X (lb_X2_lastUpTo_20 X) n2 σ x1 x2 _ _ _ hw h (lv_sub hl [1, 2, 0] rfl))
end
section
variable {p : Program} {l : Launch} {e : Env} {s : State} {m : MethodId} {args : Array Value} {below : List Frame} {meth : Method} {c : Code} {D : va_G} {ct : Nat → ClassId} {ad : Nat → Nat → Nat} {L : List (Nat × Nat)} {φ : Nat → Nat → Nat → Bool} {N0 : Nat}
variable {Q : Int → St → Prop}
theorem pd_X2_eighthsAt : yX2_eighthsAt.cls ≠ "java/lang/invoke/MethodHandle" ∧ yX2_eighthsAt.cls ≠ "java/lang/invoke/VarHandle" ∧ (parseMethodDescriptor yX2_eighthsAt.desc).map (fun d => d.parameters.length) = some 2 := by decide +kernel
set_option maxRecDepth 100000 in
set_option maxHeartbeats 4000000 in
theorem c_X2_eighthsAt (l : Launch) (D : va_G) (ct : Nat → ClassId) (ad : Nat → Nat → Nat) (L : List (Nat × Nat)) (φ : Nat → Nat → Nat → Bool) (N0 : Nat) (σ : St) (x1 : Int) (x2 : Int) (Q : Int → St → Prop) (hw : wp_X2_eighthsAt σ x1 x2 Q) : Met l yX2_eighthsAt (.code yX2_eighthsAt cX2_eighthsAt 5 (some .int) :: gw) ({ frames := 1, cells := 0, slots := 0, locals := 23 } : Room) (Pm D ct ad L φ N0 σ [.ref (ad 2 0), .int (iv x1), .int (iv x2)]) (Qi D ct ad L φ N0 Q) 0 0 (AA N0) := by
  refine m_of (by decide) (fun p e s m below meth c X hnm h => ?_)
  have hF := X.2.2.2.2.2.2.2.2.1
  have hl := lv_entry ([.ref (ad 2 0), .int (iv x1), .int (iv x2)]) (n := 5) (Nat.le_of_ble_eq_true rfl)
  rw [lg_entry_eq]
  generalize (lg_sl ([.ref (ad 2 0), .int (iv x1), .int (iv x2)]) ++ List.replicate (5 - (lg_sl ([.ref (ad 2 0), .int (iv x1), .int (iv x2)])).length) Slot.unset).toArray = ls at hl ⊢
  have hl : lv_has ls 5 [(0, .ref (ad 2 0)), (1, .int (iv x1)), (2, .int (iv x2))] := hl
  have h : Hs D ct ad L φ N0 s.heap σ s.heap [] := h
  unfold wp_X2_eighthsAt at hw
  refine lv_aload_n X.1 X.2.1 dX2_eighthsAt_0 rfl (lv_at hl 0 rfl) ?_
  refine lv_iload_n X.1 X.2.1 dX2_eighthsAt_1 rfl (lv_at hl 1 rfl) ?_
  refine lv_iload_n X.1 X.2.1 dX2_eighthsAt_2 rfl (lv_at hl 2 rfl) ?_
  refine k_i h (r_V (C := RX2) (ci := 2) (As := [.int (iv x1), .int (iv x2)]) (rest := []) X h (c_X2_lastUpTo l D ct ad L φ N0 σ x1 x2 _ hw) rfl rfl ⟨Nat.le_of_ble_eq_true rfl, Nat.le_of_ble_eq_true rfl⟩ kw_1475 kw_1477 kw_58 kw_128 kw_1478 ⟨rfl, pd_X2_lastUpTo⟩ (hF.1 2 rfl).1 rfl rfl rfl hl.1 rfl (Nat.le_of_ble_eq_true rfl) ⟨Nat.le_of_ble_eq_true rfl, Nat.le_of_ble_eq_true rfl⟩ dX2_eighthsAt_3) (fun r_2 σ_1 H locs hw h => ?_)
  refine lv_istore_n (lv' := [(3, .int (iv r_2)), (0, .ref (ad 2 0)), (1, .int (iv x1)), (2, .int (iv x2))]) X.1 X.2.1 dX2_eighthsAt_6 rfl hl (by decide) rfl (fun ls hl => ?_)
  refine lv_aload_n X.1 X.2.1 dX2_eighthsAt_7 rfl (lv_at hl 1 rfl) ?_
  refine lv_iload_n X.1 X.2.1 dX2_eighthsAt_8 rfl (lv_at hl 2 rfl) ?_
  refine lv_iload_n X.1 X.2.1 dX2_eighthsAt_9 rfl (lv_at hl 3 rfl) ?_
  refine k_i h (r_V (C := RX2) (ci := 2) (As := [.int (iv x1), .int (iv x2)]) (rest := []) X h (c_X2_nextFrom l D ct ad L φ N0 σ_1 x1 x2 _ hw) rfl rfl ⟨Nat.le_of_ble_eq_true rfl, Nat.le_of_ble_eq_true rfl⟩ kw_1463 kw_1465 kw_57 kw_128 kw_1466 ⟨rfl, pd_X2_nextFrom⟩ (hF.1 2 rfl).1 rfl rfl rfl hl.1 rfl (Nat.le_of_ble_eq_true rfl) ⟨Nat.le_of_ble_eq_true rfl, Nat.le_of_ble_eq_true rfl⟩ dX2_eighthsAt_10) (fun r_4 σ_3 H locs hw h => ?_)
  refine lv_istore (lv' := [(4, .int (iv r_4)), (3, .int (iv r_2)), (0, .ref (ad 2 0)), (1, .int (iv x1)), (2, .int (iv x2))]) X.1 X.2.1 dX2_eighthsAt_13 hl (by decide) rfl (fun ls hl => ?_)
  refine lv_iload_n X.1 X.2.1 dX2_eighthsAt_15 rfl (lv_at hl 1 rfl) ?_
  refine j_iconst X dX2_eighthsAt_16 ?_
  obtain ⟨g_5, hwt, hwf⟩ := hw
  refine j_cmp_ne (tgt := 38) X g_5 ⟨by decide, by decide⟩ dX2_eighthsAt_17 (by decide) (fun c_19 => ?_) (fun c_19 => ?_)
  · have hw := hwt c_19
    refine lv_iload X.1 X.2.1 dX2_eighthsAt_38 (lv_at hl 0 rfl) ?_
    refine j_iconst X dX2_eighthsAt_40 ?_
    obtain ⟨g_6, hwt, hwf⟩ := hw
    refine j_cmp_ne (tgt := 53) X g_6 ⟨by decide, by decide⟩ dX2_eighthsAt_41 (by decide) (fun c_14 => ?_) (fun c_14 => ?_)
    · have hw := hwt c_14
      refine lv_aload_n X.1 X.2.1 dX2_eighthsAt_53 rfl (lv_at hl 2 rfl) ?_
      refine r_getR (ci := 2) X inw_2 h (hF.1 2 rfl).1 rfl rfl 2 (by decide) kw_447 rfl ((hF.1 2 rfl).2 2) dX2_eighthsAt_54 ?_
      refine lv_iload_n X.1 X.2.1 dX2_eighthsAt_57 rfl (lv_at hl 1 rfl) ?_
      obtain ⟨g_7, g_8, hw⟩ := hw
      refine r_iald (n := 160) X h (hF.1 26 rfl).1 rfl (by decide) g_7 g_8 dX2_eighthsAt_58 ?_
      refine lv_aload_n X.1 X.2.1 dX2_eighthsAt_59 rfl (lv_at hl 2 rfl) ?_
      refine r_getR (ci := 2) X inw_2 h (hF.1 2 rfl).1 rfl rfl 2 (by decide) kw_447 rfl ((hF.1 2 rfl).2 2) dX2_eighthsAt_60 ?_
      refine lv_iload X.1 X.2.1 dX2_eighthsAt_63 (lv_at hl 0 rfl) ?_
      obtain ⟨g_9, g_10, hw⟩ := hw
      refine r_iald (n := 160) X h (hF.1 26 rfl).1 rfl (by decide) g_9 g_10 dX2_eighthsAt_65 ?_
      refine j_iadd X dX2_eighthsAt_66 ?_
      refine j_iconst X dX2_eighthsAt_67 ?_
      obtain ⟨g_11, hw⟩ := hw
      refine j_idiv X g_11 ⟨by decide, by decide⟩ (by decide) (by decide) dX2_eighthsAt_68 ?_
      exact k_ir X rfl h hw dX2_eighthsAt_69
    · have hw := hwf c_14
      refine lv_aload_n X.1 X.2.1 dX2_eighthsAt_44 rfl (lv_at hl 2 rfl) ?_
      refine r_getR (ci := 2) X inw_2 h (hF.1 2 rfl).1 rfl rfl 2 (by decide) kw_447 rfl ((hF.1 2 rfl).2 2) dX2_eighthsAt_45 ?_
      refine lv_iload_n X.1 X.2.1 dX2_eighthsAt_48 rfl (lv_at hl 1 rfl) ?_
      obtain ⟨g_12, g_13, hw⟩ := hw
      refine r_iald (n := 160) X h (hF.1 26 rfl).1 rfl (by decide) g_12 g_13 dX2_eighthsAt_49 ?_
      refine lv_goto (tgt := 69) X.1 X.2.1 dX2_eighthsAt_50 (by decide) ?_
      exact k_ir X rfl h hw dX2_eighthsAt_69
  · have hw := hwf c_19
    refine lv_iload X.1 X.2.1 dX2_eighthsAt_20 (lv_at hl 0 rfl) ?_
    refine j_iconst X dX2_eighthsAt_22 ?_
    obtain ⟨g_15, hwt, hwf⟩ := hw
    refine j_cmp_ne (tgt := 30) X g_15 ⟨by decide, by decide⟩ dX2_eighthsAt_23 (by decide) (fun c_18 => ?_) (fun c_18 => ?_)
    · have hw := hwt c_18
      refine lv_aload_n X.1 X.2.1 dX2_eighthsAt_30 rfl (lv_at hl 2 rfl) ?_
      refine r_getR (ci := 2) X inw_2 h (hF.1 2 rfl).1 rfl rfl 2 (by decide) kw_447 rfl ((hF.1 2 rfl).2 2) dX2_eighthsAt_31 ?_
      refine lv_iload X.1 X.2.1 dX2_eighthsAt_34 (lv_at hl 0 rfl) ?_
      obtain ⟨g_16, g_17, hw⟩ := hw
      refine r_iald (n := 160) X h (hF.1 26 rfl).1 rfl (by decide) g_16 g_17 dX2_eighthsAt_36 ?_
      exact k_ir X rfl h hw dX2_eighthsAt_37
    · have hw := hwf c_18
      refine j_iconst X dX2_eighthsAt_26 ?_
      refine lv_goto (tgt := 37) X.1 X.2.1 dX2_eighthsAt_27 (by decide) ?_
      exact k_ir X rfl h hw dX2_eighthsAt_37
end
section
variable {p : Program} {l : Launch} {e : Env} {s : State} {m : MethodId} {args : Array Value} {below : List Frame} {meth : Method} {c : Code} {D : va_G} {ct : Nat → ClassId} {ad : Nat → Nat → Nat} {L : List (Nat × Nat)} {φ : Nat → Nat → Nat → Bool} {N0 : Nat}
variable {Q : Int → St → Prop}
set_option maxRecDepth 100000 in
set_option maxHeartbeats 4000000 in
theorem lb_X2_sumOf_4 (X : Cx p s m meth c args cX2_sumOf 4 (some .int) RX2 D ct L φ N0) : ∀ (n : Nat) (σ : St) (x1 : Int) (x2 : Int) (x3 : Int) (H : Heap) (locs : List Loc) (ls : Array Slot), wp_X2_sumOf_4 Q n σ x1 x2 x3 → Hs D ct ad L φ N0 s.heap σ H locs → lv_has ls 4 [(0, .ref (ad 2 0)), (1, .int (iv x1)), (2, .int (iv x2)), (3, .int (iv x3))] → W p l e ({ frames := 2, cells := 0, slots := 0, locals := 47 } : Room) s m args below meth c H locs 0 0 (MQ below (Qi D ct ad L φ N0 Q) args s 0 0 (AA N0)) (F0 m 4 ls []) := by
  have hF := X.2.2.2.2.2.2.2.2.1
  intro n
  induction n with
  | zero => intro σ x1 x2 x3 H locs ls hw; exact hw.elim
  | succ n ih =>
    intro σ x1 x2 x3 H locs ls hw h hl
    unfold wp_X2_sumOf_4 at hw
    refine lv_iload_n X.1 X.2.1 dX2_sumOf_4 rfl (lv_at hl 3 rfl) ?_
    refine lv_aload_n X.1 X.2.1 dX2_sumOf_5 rfl (lv_at hl 0 rfl) ?_
    refine r_getR (ci := 2) X inw_2 h (hF.1 2 rfl).1 rfl rfl 0 (by decide) kw_445 rfl ((hF.1 2 rfl).2 0) dX2_sumOf_6 ?_
    refine lv_iload_n X.1 X.2.1 dX2_sumOf_9 rfl (lv_at hl 1 rfl) ?_
    obtain ⟨g_1, g_2, hw⟩ := hw
    refine r_iald (n := 4) X h (hF.1 24 rfl).1 rfl (by decide) g_1 g_2 dX2_sumOf_10 ?_
    obtain ⟨g_3, g_4, hwt, hwf⟩ := hw
    refine j_cmp_ge (tgt := 29) X g_3 g_4 dX2_sumOf_11 (by decide) (fun c_8 => ?_) (fun c_8 => ?_)
    · have hw := hwt c_8
      refine lv_iload_n X.1 X.2.1 dX2_sumOf_29 rfl (lv_at hl 2 rfl) ?_
      exact k_ir X rfl h hw dX2_sumOf_30
    · have hw := hwf c_8
      refine lv_iload_n X.1 X.2.1 dX2_sumOf_14 rfl (lv_at hl 2 rfl) ?_
      refine lv_aload_n X.1 X.2.1 dX2_sumOf_15 rfl (lv_at hl 0 rfl) ?_
      refine lv_iload_n X.1 X.2.1 dX2_sumOf_16 rfl (lv_at hl 1 rfl) ?_
      refine lv_iload_n X.1 X.2.1 dX2_sumOf_17 rfl (lv_at hl 3 rfl) ?_
      refine k_i h (r_V (C := RX2) (ci := 2) (As := [.int (iv x1), .int (iv x3)]) (rest := [.int (iv x2)]) X h (c_X2_eighthsAt l D ct ad L φ N0 σ x1 x3 _ hw) rfl rfl ⟨Nat.le_of_ble_eq_true rfl, Nat.le_of_ble_eq_true rfl⟩ kw_1471 kw_1472 kw_1473 kw_128 kw_1474 ⟨rfl, pd_X2_eighthsAt⟩ (hF.1 2 rfl).1 rfl rfl rfl hl.1 rfl (Nat.le_of_ble_eq_true rfl) ⟨Nat.le_of_ble_eq_true rfl, Nat.le_of_ble_eq_true rfl⟩ dX2_sumOf_18) (fun r_6 σ_5 H locs hw h => ?_)
      refine j_iadd X dX2_sumOf_21 ?_
      refine j_bind (fun v_7 ev_7 => ?_)
      have hw := hw v_7 ev_7
      refine lv_istore_n (lv' := [(2, .int (iv v_7)), (0, .ref (ad 2 0)), (1, .int (iv x1)), (3, .int (iv x3))]) X.1 X.2.1 dX2_sumOf_22 rfl hl (by decide) rfl (fun ls hl => ?_)
      refine j_iinc (kk9 := 3) (lv' := [(3, .int (iv (x3 + 1))), (2, .int (iv v_7)), (0, .ref (ad 2 0)), (1, .int (iv x1))]) X dX2_sumOf_23 hl rfl (by decide) rfl (fun ls hl => ?_)
      refine lv_goto (tgt := 4) X.1 X.2.1 dX2_sumOf_26 (by decide) ?_
      exact ih σ_5 x1 v_7 (x3 + 1) _ _ _ hw h (lv_sub hl [2, 3, 1, 0] rfl)
theorem pd_X2_sumOf : yX2_sumOf.cls ≠ "java/lang/invoke/MethodHandle" ∧ yX2_sumOf.cls ≠ "java/lang/invoke/VarHandle" ∧ (parseMethodDescriptor yX2_sumOf.desc).map (fun d => d.parameters.length) = some 1 := by decide +kernel
set_option maxRecDepth 100000 in
set_option maxHeartbeats 4000000 in
theorem c_X2_sumOf (l : Launch) (D : va_G) (ct : Nat → ClassId) (ad : Nat → Nat → Nat) (L : List (Nat × Nat)) (φ : Nat → Nat → Nat → Bool) (N0 : Nat) (σ : St) (x1 : Int) (Q : Int → St → Prop) (hw : wp_X2_sumOf σ x1 Q) : Met l yX2_sumOf (.code yX2_sumOf cX2_sumOf 4 (some .int) :: gw) ({ frames := 2, cells := 0, slots := 0, locals := 47 } : Room) (Pm D ct ad L φ N0 σ [.ref (ad 2 0), .int (iv x1)]) (Qi D ct ad L φ N0 Q) 0 0 (AA N0) := by
  refine m_of (by decide) (fun p e s m below meth c X hnm h => ?_)
  have hF := X.2.2.2.2.2.2.2.2.1
  have hl := lv_entry ([.ref (ad 2 0), .int (iv x1)]) (n := 4) (Nat.le_of_ble_eq_true rfl)
  rw [lg_entry_eq]
  generalize (lg_sl ([.ref (ad 2 0), .int (iv x1)]) ++ List.replicate (4 - (lg_sl ([.ref (ad 2 0), .int (iv x1)])).length) Slot.unset).toArray = ls at hl ⊢
  have hl : lv_has ls 4 [(0, .ref (ad 2 0)), (1, .int (iv x1))] := hl
  have h : Hs D ct ad L φ N0 s.heap σ s.heap [] := h
  unfold wp_X2_sumOf at hw
  refine j_iconst X dX2_sumOf_0 ?_
  refine lv_istore_n (lv' := [(2, .int (iv 0)), (0, .ref (ad 2 0)), (1, .int (iv x1))]) X.1 X.2.1 dX2_sumOf_1 rfl hl (by decide) rfl (fun ls hl => ?_)
  refine j_iconst X dX2_sumOf_2 ?_
  refine lv_istore_n (lv' := [(3, .int (iv 0)), (2, .int (iv 0)), (0, .ref (ad 2 0)), (1, .int (iv x1))]) X.1 X.2.1 dX2_sumOf_3 rfl hl (by decide) rfl (fun ls hl => ?_)
  exact hw.elim (fun n4 hw => lb_X2_sumOf_4 X n4 σ x1 0 0 _ _ _ hw h (lv_sub hl [2, 3, 1, 0] rfl))
end
section
variable {p : Program} {l : Launch} {e : Env} {s : State} {m : MethodId} {args : Array Value} {below : List Frame} {meth : Method} {c : Code} {D : va_G} {ct : Nat → ClassId} {ad : Nat → Nat → Nat} {L : List (Nat × Nat)} {φ : Nat → Nat → Nat → Bool} {N0 : Nat}
variable {Q : Int → St → Prop}
set_option maxRecDepth 100000 in
set_option maxHeartbeats 4000000 in
theorem lb_X2_spreadOf_12 (X : Cx p s m meth c args cX2_spreadOf 6 (some .int) RX2 D ct L φ N0) : ∀ (n : Nat) (σ : St) (x1 : Int) (x2 : Int) (x3 : Int) (x4 : Int) (H : Heap) (locs : List Loc) (ls : Array Slot), wp_X2_spreadOf_12 Q n σ x1 x2 x3 x4 → Hs D ct ad L φ N0 s.heap σ H locs → lv_has ls 6 [(0, .ref (ad 2 0)), (1, .int (iv x1)), (2, .int (iv x2)), (3, .int (iv x3)), (4, .int (iv x4))] → W p l e ({ frames := 2, cells := 0, slots := 0, locals := 47 } : Room) s m args below meth c H locs 0 0 (MQ below (Qi D ct ad L φ N0 Q) args s 0 0 (AA N0)) (F0 m 12 ls []) := by
  have hF := X.2.2.2.2.2.2.2.2.1
  intro n
  induction n with
  | zero => intro σ x1 x2 x3 x4 H locs ls hw; exact hw.elim
  | succ n ih =>
    intro σ x1 x2 x3 x4 H locs ls hw h hl
    unfold wp_X2_spreadOf_12 at hw
    refine lv_iload X.1 X.2.1 dX2_spreadOf_12 (lv_at hl 4 rfl) ?_
    refine lv_aload_n X.1 X.2.1 dX2_spreadOf_14 rfl (lv_at hl 0 rfl) ?_
    refine r_getR (ci := 2) X inw_2 h (hF.1 2 rfl).1 rfl rfl 0 (by decide) kw_445 rfl ((hF.1 2 rfl).2 0) dX2_spreadOf_15 ?_
    refine lv_iload_n X.1 X.2.1 dX2_spreadOf_18 rfl (lv_at hl 1 rfl) ?_
    obtain ⟨g_1, g_2, hw⟩ := hw
    refine r_iald (n := 4) X h (hF.1 24 rfl).1 rfl (by decide) g_1 g_2 dX2_spreadOf_19 ?_
    obtain ⟨g_3, g_4, hwt, hwf⟩ := hw
    refine j_cmp_ge (tgt := 52) X g_3 g_4 dX2_spreadOf_20 (by decide) (fun c_11 => ?_) (fun c_11 => ?_)
    · have hw := hwt c_11
      refine lv_iload_n X.1 X.2.1 dX2_spreadOf_52 rfl (lv_at hl 3 rfl) ?_
      refine lv_iload_n X.1 X.2.1 dX2_spreadOf_53 rfl (lv_at hl 2 rfl) ?_
      refine j_isub X dX2_spreadOf_54 ?_
      exact k_ir X rfl h hw dX2_spreadOf_55
    · have hw := hwf c_11
      refine lv_aload_n X.1 X.2.1 dX2_spreadOf_23 rfl (lv_at hl 0 rfl) ?_
      refine lv_iload_n X.1 X.2.1 dX2_spreadOf_24 rfl (lv_at hl 1 rfl) ?_
      refine lv_iload X.1 X.2.1 dX2_spreadOf_25 (lv_at hl 4 rfl) ?_
      refine k_i h (r_V (C := RX2) (ci := 2) (As := [.int (iv x1), .int (iv x4)]) (rest := []) X h (c_X2_eighthsAt l D ct ad L φ N0 σ x1 x4 _ hw) rfl rfl ⟨Nat.le_of_ble_eq_true rfl, Nat.le_of_ble_eq_true rfl⟩ kw_1471 kw_1472 kw_1473 kw_128 kw_1474 ⟨rfl, pd_X2_eighthsAt⟩ (hF.1 2 rfl).1 rfl rfl rfl hl.1 rfl (Nat.le_of_ble_eq_true rfl) ⟨Nat.le_of_ble_eq_true rfl, Nat.le_of_ble_eq_true rfl⟩ dX2_spreadOf_27) (fun r_6 σ_5 H locs hw h => ?_)
      refine lv_istore (lv' := [(5, .int (iv r_6)), (0, .ref (ad 2 0)), (1, .int (iv x1)), (2, .int (iv x2)), (3, .int (iv x3)), (4, .int (iv x4))]) X.1 X.2.1 dX2_spreadOf_30 hl (by decide) rfl (fun ls hl => ?_)
      refine lv_iload_n X.1 X.2.1 dX2_spreadOf_32 rfl (lv_at hl 3 rfl) ?_
      refine lv_iload X.1 X.2.1 dX2_spreadOf_33 (lv_at hl 0 rfl) ?_
      refine k_i h (r_S (As := [.int (iv x2), .int (iv r_6)]) (rest := []) X h (c_J9_min_7cf53 l D ct ad L φ N0 σ_5 x2 r_6 _ hw) rfl rfl ⟨Nat.le_of_ble_eq_true rfl, Nat.le_of_ble_eq_true rfl⟩ kw_1483 kw_918 kw_130 kw_919 pd_J9_min_7cf53 rfl hl.1 rfl (Nat.le_of_ble_eq_true rfl) ⟨Nat.le_of_ble_eq_true rfl, Nat.le_of_ble_eq_true rfl⟩ dX2_spreadOf_35) (fun r_8 σ_7 H locs hw h => ?_)
      refine lv_istore_n (lv' := [(2, .int (iv r_8)), (5, .int (iv r_6)), (0, .ref (ad 2 0)), (1, .int (iv x1)), (3, .int (iv x3)), (4, .int (iv x4))]) X.1 X.2.1 dX2_spreadOf_38 rfl hl (by decide) rfl (fun ls hl => ?_)
      refine lv_iload_n X.1 X.2.1 dX2_spreadOf_39 rfl (lv_at hl 4 rfl) ?_
      refine lv_iload X.1 X.2.1 dX2_spreadOf_40 (lv_at hl 1 rfl) ?_
      refine k_i h (r_S (As := [.int (iv x3), .int (iv r_6)]) (rest := []) X h (c_J9_max_7cf53 l D ct ad L φ N0 σ_7 x3 r_6 _ hw) rfl rfl ⟨Nat.le_of_ble_eq_true rfl, Nat.le_of_ble_eq_true rfl⟩ kw_1484 kw_619 kw_130 kw_620 pd_J9_max_7cf53 rfl hl.1 rfl (Nat.le_of_ble_eq_true rfl) ⟨Nat.le_of_ble_eq_true rfl, Nat.le_of_ble_eq_true rfl⟩ dX2_spreadOf_42) (fun r_10 σ_9 H locs hw h => ?_)
      refine lv_istore_n (lv' := [(3, .int (iv r_10)), (2, .int (iv r_8)), (5, .int (iv r_6)), (0, .ref (ad 2 0)), (1, .int (iv x1)), (4, .int (iv x4))]) X.1 X.2.1 dX2_spreadOf_45 rfl hl (by decide) rfl (fun ls hl => ?_)
      refine j_iinc (kk9 := 5) (lv' := [(4, .int (iv (x4 + 1))), (3, .int (iv r_10)), (2, .int (iv r_8)), (5, .int (iv r_6)), (0, .ref (ad 2 0)), (1, .int (iv x1))]) X dX2_spreadOf_46 hl rfl (by decide) rfl (fun ls hl => ?_)
      refine lv_goto (tgt := 12) X.1 X.2.1 dX2_spreadOf_49 (by decide) ?_
      exact ih σ_9 x1 r_8 r_10 (x4 + 1) _ _ _ hw h (lv_sub hl [4, 5, 2, 1, 0] rfl)
theorem pd_X2_spreadOf : yX2_spreadOf.cls ≠ "java/lang/invoke/MethodHandle" ∧ yX2_spreadOf.cls ≠ "java/lang/invoke/VarHandle" ∧ (parseMethodDescriptor yX2_spreadOf.desc).map (fun d => d.parameters.length) = some 1 := by decide +kernel
set_option maxRecDepth 100000 in
set_option maxHeartbeats 4000000 in
theorem c_X2_spreadOf (l : Launch) (D : va_G) (ct : Nat → ClassId) (ad : Nat → Nat → Nat) (L : List (Nat × Nat)) (φ : Nat → Nat → Nat → Bool) (N0 : Nat) (σ : St) (x1 : Int) (Q : Int → St → Prop) (hw : wp_X2_spreadOf σ x1 Q) : Met l yX2_spreadOf (.code yX2_spreadOf cX2_spreadOf 6 (some .int) :: gw) ({ frames := 2, cells := 0, slots := 0, locals := 47 } : Room) (Pm D ct ad L φ N0 σ [.ref (ad 2 0), .int (iv x1)]) (Qi D ct ad L φ N0 Q) 0 0 (AA N0) := by
  refine m_of (by decide) (fun p e s m below meth c X hnm h => ?_)
  have hF := X.2.2.2.2.2.2.2.2.1
  have hl := lv_entry ([.ref (ad 2 0), .int (iv x1)]) (n := 6) (Nat.le_of_ble_eq_true rfl)
  rw [lg_entry_eq]
  generalize (lg_sl ([.ref (ad 2 0), .int (iv x1)]) ++ List.replicate (6 - (lg_sl ([.ref (ad 2 0), .int (iv x1)])).length) Slot.unset).toArray = ls at hl ⊢
  have hl : lv_has ls 6 [(0, .ref (ad 2 0)), (1, .int (iv x1))] := hl
  have h : Hs D ct ad L φ N0 s.heap σ s.heap [] := h
  unfold wp_X2_spreadOf at hw
  refine lv_aload_n X.1 X.2.1 dX2_spreadOf_0 rfl (lv_at hl 0 rfl) ?_
  refine lv_iload_n X.1 X.2.1 dX2_spreadOf_1 rfl (lv_at hl 1 rfl) ?_
  refine j_iconst X dX2_spreadOf_2 ?_
  refine k_i h (r_V (C := RX2) (ci := 2) (As := [.int (iv x1), .int (iv 0)]) (rest := []) X h (c_X2_eighthsAt l D ct ad L φ N0 σ x1 0 _ hw) rfl rfl ⟨Nat.le_of_ble_eq_true rfl, Nat.le_of_ble_eq_true rfl⟩ kw_1471 kw_1472 kw_1473 kw_128 kw_1474 ⟨rfl, pd_X2_eighthsAt⟩ (hF.1 2 rfl).1 rfl rfl rfl hl.1 rfl (Nat.le_of_ble_eq_true rfl) ⟨Nat.le_of_ble_eq_true rfl, Nat.le_of_ble_eq_true rfl⟩ dX2_spreadOf_3) (fun r_13 σ_12 H locs hw h => ?_)
  refine lv_istore_n (lv' := [(2, .int (iv r_13)), (0, .ref (ad 2 0)), (1, .int (iv x1))]) X.1 X.2.1 dX2_spreadOf_6 rfl hl (by decide) rfl (fun ls hl => ?_)
  refine lv_iload_n X.1 X.2.1 dX2_spreadOf_7 rfl (lv_at hl 0 rfl) ?_
  refine lv_istore_n (lv' := [(3, .int (iv r_13)), (2, .int (iv r_13)), (0, .ref (ad 2 0)), (1, .int (iv x1))]) X.1 X.2.1 dX2_spreadOf_8 rfl hl (by decide) rfl (fun ls hl => ?_)
  refine j_iconst X dX2_spreadOf_9 ?_
  refine lv_istore (lv' := [(4, .int (iv 1)), (3, .int (iv r_13)), (2, .int (iv r_13)), (0, .ref (ad 2 0)), (1, .int (iv x1))]) X.1 X.2.1 dX2_spreadOf_10 hl (by decide) rfl (fun ls hl => ?_)
  exact hw.elim (fun n12 hw => lb_X2_spreadOf_12 X n12 σ_12 x1 r_13 r_13 1 _ _ _ hw h (lv_sub hl [3, 4, 2, 1, 0] rfl))
end
section
variable {p : Program} {l : Launch} {e : Env} {s : State} {m : MethodId} {args : Array Value} {below : List Frame} {meth : Method} {c : Code} {D : va_G} {ct : Nat → ClassId} {ad : Nat → Nat → Nat} {L : List (Nat × Nat)} {φ : Nat → Nat → Nat → Bool} {N0 : Nat}
variable {Q : Int → St → Prop}
theorem pd_X3_stemPlace : yX3_stemPlace.cls ≠ "java/lang/invoke/MethodHandle" ∧ yX3_stemPlace.cls ≠ "java/lang/invoke/VarHandle" ∧ (parseMethodDescriptor yX3_stemPlace.desc).map (fun d => d.parameters.length) = some 3 := by decide +kernel
set_option maxRecDepth 100000 in
set_option maxHeartbeats 4000000 in
theorem c_X3_stemPlace (l : Launch) (D : va_G) (ct : Nat → ClassId) (ad : Nat → Nat → Nat) (L : List (Nat × Nat)) (φ : Nat → Nat → Nat → Bool) (N0 : Nat) (σ : St) (x0 : Int) (x1 : Int) (x2 : Int) (Q : Int → St → Prop) (hw : wp_X3_stemPlace σ x0 x1 x2 Q) : Met l yX3_stemPlace (.code yX3_stemPlace cX3_stemPlace 3 (some .int) :: gw) ({ frames := 0, cells := 0, slots := 0, locals := 0 } : Room) (Pm D ct ad L φ N0 σ [.int (iv x0), .int (iv x1), .int (iv x2)]) (Qi D ct ad L φ N0 Q) 0 0 (AA N0) := by
  refine m_of (by decide) (fun p e s m below meth c X hnm h => ?_)
  have hF := X.2.2.2.2.2.2.2.2.1
  have hl := lv_entry ([.int (iv x0), .int (iv x1), .int (iv x2)]) (n := 3) (Nat.le_of_ble_eq_true rfl)
  rw [lg_entry_eq]
  generalize (lg_sl ([.int (iv x0), .int (iv x1), .int (iv x2)]) ++ List.replicate (3 - (lg_sl ([.int (iv x0), .int (iv x1), .int (iv x2)])).length) Slot.unset).toArray = ls at hl ⊢
  have hl : lv_has ls 3 [(0, .int (iv x0)), (1, .int (iv x1)), (2, .int (iv x2))] := hl
  have h : Hs D ct ad L φ N0 s.heap σ s.heap [] := h
  unfold wp_X3_stemPlace at hw
  refine lv_iload_n X.1 X.2.1 dX3_stemPlace_0 rfl (lv_at hl 0 rfl) ?_
  refine j_bipush X dX3_stemPlace_1 (by decide) ?_
  refine j_imul X dX3_stemPlace_3 ?_
  refine lv_iload_n X.1 X.2.1 dX3_stemPlace_4 rfl (lv_at hl 1 rfl) ?_
  refine j_iconst X dX3_stemPlace_5 ?_
  refine j_imul X dX3_stemPlace_6 ?_
  refine j_iadd X dX3_stemPlace_7 ?_
  refine lv_iload_n X.1 X.2.1 dX3_stemPlace_8 rfl (lv_at hl 2 rfl) ?_
  refine j_iadd X dX3_stemPlace_9 ?_
  exact k_ir X rfl h hw dX3_stemPlace_10
end
section
variable {p : Program} {l : Launch} {e : Env} {s : State} {m : MethodId} {args : Array Value} {below : List Frame} {meth : Method} {c : Code} {D : va_G} {ct : Nat → ClassId} {ad : Nat → Nat → Nat} {L : List (Nat × Nat)} {φ : Nat → Nat → Nat → Bool} {N0 : Nat}
variable {Q : Int → St → Prop}
theorem pd_J9_abs_0f7a4 : yJ9_abs_0f7a4.cls ≠ "java/lang/invoke/MethodHandle" ∧ yJ9_abs_0f7a4.cls ≠ "java/lang/invoke/VarHandle" ∧ (parseMethodDescriptor yJ9_abs_0f7a4.desc).map (fun d => d.parameters.length) = some 1 := by decide +kernel
set_option maxRecDepth 100000 in
set_option maxHeartbeats 4000000 in
theorem c_J9_abs_0f7a4 (l : Launch) (D : va_G) (ct : Nat → ClassId) (ad : Nat → Nat → Nat) (L : List (Nat × Nat)) (φ : Nat → Nat → Nat → Bool) (N0 : Nat) (σ : St) (x0 : Int) (Q : Int → St → Prop) (hw : wp_J9_abs_0f7a4 σ x0 Q) : Met l yJ9_abs_0f7a4 (.code yJ9_abs_0f7a4 cJ9_abs_0f7a4 1 (some .int) :: gw) ({ frames := 0, cells := 0, slots := 0, locals := 0 } : Room) (Pm D ct ad L φ N0 σ [.int (iv x0)]) (Qi D ct ad L φ N0 Q) 0 0 (AA N0) := by
  refine m_ofF (by decide +kernel) (fun p e s m below meth c X hnm h => ?_)
  have hF := X.2.2.2.2.2.2.2.2.1
  have hl := lv_entry ([.int (iv x0)]) (n := 1) (Nat.le_of_ble_eq_true rfl)
  rw [lg_entry_eq]
  generalize (lg_sl ([.int (iv x0)]) ++ List.replicate (1 - (lg_sl ([.int (iv x0)])).length) Slot.unset).toArray = ls at hl ⊢
  have hl : lv_has ls 1 [(0, .int (iv x0))] := hl
  have h : Hs D ct ad L φ N0 s.heap σ s.heap [] := h
  unfold wp_J9_abs_0f7a4 at hw
  refine lv_iload_n X.1 X.2.1 dJ9_abs_0f7a4_0 rfl (lv_at hl 0 rfl) ?_
  obtain ⟨g_1, hwt, hwf⟩ := hw
  refine j_if_ge (tgt := 9) X g_1 dJ9_abs_0f7a4_1 (by decide) (fun c_2 => ?_) (fun c_2 => ?_)
  · have hw := hwt c_2
    refine lv_iload_n X.1 X.2.1 dJ9_abs_0f7a4_9 rfl (lv_at hl 0 rfl) ?_
    exact k_ir X rfl h hw dJ9_abs_0f7a4_10
  · have hw := hwf c_2
    refine lv_iload_n X.1 X.2.1 dJ9_abs_0f7a4_4 rfl (lv_at hl 0 rfl) ?_
    refine j_ineg X dJ9_abs_0f7a4_5 ?_
    refine lv_goto (tgt := 10) X.1 X.2.1 dJ9_abs_0f7a4_6 (by decide) ?_
    exact k_ir X rfl h hw dJ9_abs_0f7a4_10
end
section
variable {p : Program} {l : Launch} {e : Env} {s : State} {m : MethodId} {args : Array Value} {below : List Frame} {meth : Method} {c : Code} {D : va_G} {ct : Nat → ClassId} {ad : Nat → Nat → Nat} {L : List (Nat × Nat)} {φ : Nat → Nat → Nat → Bool} {N0 : Nat}
variable {Q : Int → St → Prop}
theorem pd_X3_apart : yX3_apart.cls ≠ "java/lang/invoke/MethodHandle" ∧ yX3_apart.cls ≠ "java/lang/invoke/VarHandle" ∧ (parseMethodDescriptor yX3_apart.desc).map (fun d => d.parameters.length) = some 2 := by decide +kernel
set_option maxRecDepth 100000 in
set_option maxHeartbeats 4000000 in
theorem c_X3_apart (l : Launch) (D : va_G) (ct : Nat → ClassId) (ad : Nat → Nat → Nat) (L : List (Nat × Nat)) (φ : Nat → Nat → Nat → Bool) (N0 : Nat) (σ : St) (x0 : Int) (x1 : Int) (Q : Int → St → Prop) (hw : wp_X3_apart σ x0 x1 Q) : Met l yX3_apart (.code yX3_apart cX3_apart 2 (some .int) :: gw) ({ frames := 1, cells := 0, slots := 0, locals := 20 } : Room) (Pm D ct ad L φ N0 σ [.int (iv x0), .int (iv x1)]) (Qi D ct ad L φ N0 Q) 0 0 (AA N0) := by
  refine m_of (by decide) (fun p e s m below meth c X hnm h => ?_)
  have hF := X.2.2.2.2.2.2.2.2.1
  have hl := lv_entry ([.int (iv x0), .int (iv x1)]) (n := 2) (Nat.le_of_ble_eq_true rfl)
  rw [lg_entry_eq]
  generalize (lg_sl ([.int (iv x0), .int (iv x1)]) ++ List.replicate (2 - (lg_sl ([.int (iv x0), .int (iv x1)])).length) Slot.unset).toArray = ls at hl ⊢
  have hl : lv_has ls 2 [(0, .int (iv x0)), (1, .int (iv x1))] := hl
  have h : Hs D ct ad L φ N0 s.heap σ s.heap [] := h
  unfold wp_X3_apart at hw
  refine lv_iload_n X.1 X.2.1 dX3_apart_0 rfl (lv_at hl 0 rfl) ?_
  refine j_bipush X dX3_apart_1 (by decide) ?_
  obtain ⟨g_1, hw⟩ := hw
  refine j_irem X g_1 ⟨by decide, by decide⟩ (by decide) (by decide) dX3_apart_3 ?_
  refine lv_iload_n X.1 X.2.1 dX3_apart_4 rfl (lv_at hl 1 rfl) ?_
  refine j_bipush X dX3_apart_5 (by decide) ?_
  obtain ⟨g_2, hw⟩ := hw
  refine j_irem X g_2 ⟨by decide, by decide⟩ (by decide) (by decide) dX3_apart_7 ?_
  refine j_isub X dX3_apart_8 ?_
  refine k_i h (r_S (As := [.int (iv ((Int.tmod x0 8) - (Int.tmod x1 8)))]) (rest := []) X h (c_J9_abs_0f7a4 l D ct ad L φ N0 σ ((Int.tmod x0 8) - (Int.tmod x1 8)) _ hw) rfl rfl ⟨Nat.le_of_ble_eq_true rfl, Nat.le_of_ble_eq_true rfl⟩ kw_588 kw_589 kw_130 kw_590 pd_J9_abs_0f7a4 rfl hl.1 rfl (Nat.le_of_ble_eq_true rfl) ⟨Nat.le_of_ble_eq_true rfl, Nat.le_of_ble_eq_true rfl⟩ dX3_apart_9) (fun r_4 σ_3 H locs hw h => ?_)
  refine lv_iload_n X.1 X.2.1 dX3_apart_12 rfl (lv_at hl 0 rfl) ?_
  refine j_bipush X dX3_apart_13 (by decide) ?_
  obtain ⟨g_5, hw⟩ := hw
  refine j_idiv X g_5 ⟨by decide, by decide⟩ (by decide) (by decide) dX3_apart_15 ?_
  refine lv_iload_n X.1 X.2.1 dX3_apart_16 rfl (lv_at hl 1 rfl) ?_
  refine j_bipush X dX3_apart_17 (by decide) ?_
  obtain ⟨g_6, hw⟩ := hw
  refine j_idiv X g_6 ⟨by decide, by decide⟩ (by decide) (by decide) dX3_apart_19 ?_
  refine j_isub X dX3_apart_20 ?_
  refine k_i h (r_S (As := [.int (iv ((Int.tdiv x0 8) - (Int.tdiv x1 8)))]) (rest := [.int (iv r_4)]) X h (c_J9_abs_0f7a4 l D ct ad L φ N0 σ_3 ((Int.tdiv x0 8) - (Int.tdiv x1 8)) _ hw) rfl rfl ⟨Nat.le_of_ble_eq_true rfl, Nat.le_of_ble_eq_true rfl⟩ kw_588 kw_589 kw_130 kw_590 pd_J9_abs_0f7a4 rfl hl.1 rfl (Nat.le_of_ble_eq_true rfl) ⟨Nat.le_of_ble_eq_true rfl, Nat.le_of_ble_eq_true rfl⟩ dX3_apart_21) (fun r_8 σ_7 H locs hw h => ?_)
  refine j_iadd X dX3_apart_24 ?_
  exact k_ir X rfl h hw dX3_apart_25
end
section
variable {p : Program} {l : Launch} {e : Env} {s : State} {m : MethodId} {args : Array Value} {below : List Frame} {meth : Method} {c : Code} {D : va_G} {ct : Nat → ClassId} {ad : Nat → Nat → Nat} {L : List (Nat × Nat)} {φ : Nat → Nat → Nat → Bool} {N0 : Nat}
variable {Q : Int → St → Prop}
theorem pd_X3_sideBySide : yX3_sideBySide.cls ≠ "java/lang/invoke/MethodHandle" ∧ yX3_sideBySide.cls ≠ "java/lang/invoke/VarHandle" ∧ (parseMethodDescriptor yX3_sideBySide.desc).map (fun d => d.parameters.length) = some 2 := by decide +kernel
set_option maxRecDepth 100000 in
set_option maxHeartbeats 4000000 in
theorem c_X3_sideBySide (l : Launch) (D : va_G) (ct : Nat → ClassId) (ad : Nat → Nat → Nat) (L : List (Nat × Nat)) (φ : Nat → Nat → Nat → Bool) (N0 : Nat) (σ : St) (x0 : Int) (x1 : Int) (Q : Int → St → Prop) (hw : wp_X3_sideBySide σ x0 x1 Q) : Met l yX3_sideBySide (.code yX3_sideBySide cX3_sideBySide 2 (some .boolean) :: gw) ({ frames := 2, cells := 0, slots := 0, locals := 41 } : Room) (Pm D ct ad L φ N0 σ [.int (iv x0), .int (iv x1)]) (Qi D ct ad L φ N0 Q) 0 0 (AA N0) := by
  refine m_of (by decide) (fun p e s m below meth c X hnm h => ?_)
  have hF := X.2.2.2.2.2.2.2.2.1
  have hl := lv_entry ([.int (iv x0), .int (iv x1)]) (n := 2) (Nat.le_of_ble_eq_true rfl)
  rw [lg_entry_eq]
  generalize (lg_sl ([.int (iv x0), .int (iv x1)]) ++ List.replicate (2 - (lg_sl ([.int (iv x0), .int (iv x1)])).length) Slot.unset).toArray = ls at hl ⊢
  have hl : lv_has ls 2 [(0, .int (iv x0)), (1, .int (iv x1))] := hl
  have h : Hs D ct ad L φ N0 s.heap σ s.heap [] := h
  unfold wp_X3_sideBySide at hw
  refine lv_iload_n X.1 X.2.1 dX3_sideBySide_0 rfl (lv_at hl 0 rfl) ?_
  refine lv_iload_n X.1 X.2.1 dX3_sideBySide_1 rfl (lv_at hl 1 rfl) ?_
  refine k_i h (r_S (As := [.int (iv x0), .int (iv x1)]) (rest := []) X h (c_X3_apart l D ct ad L φ N0 σ x0 x1 _ hw) rfl rfl ⟨Nat.le_of_ble_eq_true rfl, Nat.le_of_ble_eq_true rfl⟩ kw_585 kw_586 kw_122 kw_587 pd_X3_apart rfl hl.1 rfl (Nat.le_of_ble_eq_true rfl) ⟨Nat.le_of_ble_eq_true rfl, Nat.le_of_ble_eq_true rfl⟩ dX3_sideBySide_2) (fun r_2 σ_1 H locs hw h => ?_)
  refine j_iconst X dX3_sideBySide_5 ?_
  obtain ⟨g_3, hwt, hwf⟩ := hw
  refine j_cmp_ne (tgt := 13) X g_3 ⟨by decide, by decide⟩ dX3_sideBySide_6 (by decide) (fun c_4 => ?_) (fun c_4 => ?_)
  · have hw := hwt c_4
    refine j_iconst X dX3_sideBySide_13 ?_
    exact k_ir X rfl h hw dX3_sideBySide_14
  · have hw := hwf c_4
    refine j_iconst X dX3_sideBySide_9 ?_
    refine lv_goto (tgt := 14) X.1 X.2.1 dX3_sideBySide_10 (by decide) ?_
    exact k_ir X rfl h hw dX3_sideBySide_14
end
section
variable {p : Program} {l : Launch} {e : Env} {s : State} {m : MethodId} {args : Array Value} {below : List Frame} {meth : Method} {c : Code} {D : va_G} {ct : Nat → ClassId} {ad : Nat → Nat → Nat} {L : List (Nat × Nat)} {φ : Nat → Nat → Nat → Bool} {N0 : Nat}
variable {Q : Int → St → Prop}
theorem pd_X3_far : yX3_far.cls ≠ "java/lang/invoke/MethodHandle" ∧ yX3_far.cls ≠ "java/lang/invoke/VarHandle" ∧ (parseMethodDescriptor yX3_far.desc).map (fun d => d.parameters.length) = some 1 := by decide +kernel
set_option maxRecDepth 100000 in
set_option maxHeartbeats 4000000 in
theorem c_X3_far (l : Launch) (D : va_G) (ct : Nat → ClassId) (ad : Nat → Nat → Nat) (L : List (Nat × Nat)) (φ : Nat → Nat → Nat → Bool) (N0 : Nat) (σ : St) (x1 : Int) (Q : Int → St → Prop) (hw : wp_X3_far σ x1 Q) : Met l yX3_far (.code yX3_far cX3_far 2 (some .int) :: gw) ({ frames := 2, cells := 0, slots := 0, locals := 41 } : Room) (Pm D ct ad L φ N0 σ [.ref (ad 3 0), .int (iv x1)]) (Qi D ct ad L φ N0 Q) 0 0 (AA N0) := by
  refine m_of (by decide) (fun p e s m below meth c X hnm h => ?_)
  have hF := X.2.2.2.2.2.2.2.2.1
  have hl := lv_entry ([.ref (ad 3 0), .int (iv x1)]) (n := 2) (Nat.le_of_ble_eq_true rfl)
  rw [lg_entry_eq]
  generalize (lg_sl ([.ref (ad 3 0), .int (iv x1)]) ++ List.replicate (2 - (lg_sl ([.ref (ad 3 0), .int (iv x1)])).length) Slot.unset).toArray = ls at hl ⊢
  have hl : lv_has ls 2 [(0, .ref (ad 3 0)), (1, .int (iv x1))] := hl
  have h : Hs D ct ad L φ N0 s.heap σ s.heap [] := h
  unfold wp_X3_far at hw
  refine lv_iload_n X.1 X.2.1 dX3_far_0 rfl (lv_at hl 1 rfl) ?_
  refine lv_aload_n X.1 X.2.1 dX3_far_1 rfl (lv_at hl 0 rfl) ?_
  refine r_get (ci := 3) X inw_3 h (hF.1 3 rfl).1 rfl rfl 6 (by decide) kw_200 rfl dX3_far_2 ?_
  refine k_i h (r_S (As := [.int (iv x1), .int (iv (σ 3 0 6))]) (rest := []) X h (c_X3_apart l D ct ad L φ N0 σ x1 (σ 3 0 6) _ hw) rfl rfl ⟨Nat.le_of_ble_eq_true rfl, Nat.le_of_ble_eq_true rfl⟩ kw_585 kw_586 kw_122 kw_587 pd_X3_apart rfl hl.1 rfl (Nat.le_of_ble_eq_true rfl) ⟨Nat.le_of_ble_eq_true rfl, Nat.le_of_ble_eq_true rfl⟩ dX3_far_5) (fun r_2 σ_1 H locs hw h => ?_)
  exact k_ir X rfl h hw dX3_far_8
end
section
variable {p : Program} {l : Launch} {e : Env} {s : State} {m : MethodId} {args : Array Value} {below : List Frame} {meth : Method} {c : Code} {D : va_G} {ct : Nat → ClassId} {ad : Nat → Nat → Nat} {L : List (Nat × Nat)} {φ : Nat → Nat → Nat → Bool} {N0 : Nat}
variable {Q : Int → St → Prop}
set_option maxRecDepth 100000 in
set_option maxHeartbeats 4000000 in
theorem lb_X3_stemsIn_4 (X : Cx p s m meth c args cX3_stemsIn 4 (some .int) RX3 D ct L φ N0) : ∀ (n : Nat) (σ : St) (x1 : Int) (x2 : Int) (x3 : Int) (H : Heap) (locs : List Loc) (ls : Array Slot), wp_X3_stemsIn_4 Q n σ x1 x2 x3 → Hs D ct ad L φ N0 s.heap σ H locs → lv_has ls 4 [(0, .ref (ad 3 0)), (1, .int (iv x1)), (2, .int (iv x2)), (3, .int (iv x3))] → W p l e ({ frames := 0, cells := 0, slots := 0, locals := 0 } : Room) s m args below meth c H locs 0 0 (MQ below (Qi D ct ad L φ N0 Q) args s 0 0 (AA N0)) (F0 m 4 ls []) := by
  have hF := X.2.2.2.2.2.2.2.2.1
  intro n
  induction n with
  | zero => intro σ x1 x2 x3 H locs ls hw; exact hw.elim
  | succ n ih =>
    intro σ x1 x2 x3 H locs ls hw h hl
    unfold wp_X3_stemsIn_4 at hw
    refine lv_iload_n X.1 X.2.1 dX3_stemsIn_4 rfl (lv_at hl 3 rfl) ?_
    refine j_bipush X dX3_stemsIn_5 (by decide) ?_
    obtain ⟨g_1, hwt, hwf⟩ := hw
    refine j_cmp_ge (tgt := 30) X g_1 ⟨by decide, by decide⟩ dX3_stemsIn_7 (by decide) (fun c_5 => ?_) (fun c_5 => ?_)
    · have hw := hwt c_5
      refine lv_iload_n X.1 X.2.1 dX3_stemsIn_30 rfl (lv_at hl 2 rfl) ?_
      exact k_ir X rfl h hw dX3_stemsIn_31
    · have hw := hwf c_5
      refine lv_iload_n X.1 X.2.1 dX3_stemsIn_10 rfl (lv_at hl 2 rfl) ?_
      refine lv_aload_n X.1 X.2.1 dX3_stemsIn_11 rfl (lv_at hl 0 rfl) ?_
      refine r_getR (ci := 3) X inw_3 h (hF.1 3 rfl).1 rfl rfl 2 (by decide) kw_192 rfl ((hF.1 3 rfl).2 2) dX3_stemsIn_12 ?_
      refine lv_iload_n X.1 X.2.1 dX3_stemsIn_15 rfl (lv_at hl 1 rfl) ?_
      refine j_bipush X dX3_stemsIn_16 (by decide) ?_
      refine j_imul X dX3_stemsIn_18 ?_
      refine lv_iload_n X.1 X.2.1 dX3_stemsIn_19 rfl (lv_at hl 3 rfl) ?_
      refine j_iadd X dX3_stemsIn_20 ?_
      obtain ⟨g_2, g_3, hw⟩ := hw
      refine r_iald (n := 1024) X h (hF.1 30 rfl).1 rfl (by decide) g_2 g_3 dX3_stemsIn_21 ?_
      refine j_iadd X dX3_stemsIn_22 ?_
      refine j_bind (fun v_4 ev_4 => ?_)
      have hw := hw v_4 ev_4
      refine lv_istore_n (lv' := [(2, .int (iv v_4)), (0, .ref (ad 3 0)), (1, .int (iv x1)), (3, .int (iv x3))]) X.1 X.2.1 dX3_stemsIn_23 rfl hl (by decide) rfl (fun ls hl => ?_)
      refine j_iinc (kk9 := 3) (lv' := [(3, .int (iv (x3 + 1))), (2, .int (iv v_4)), (0, .ref (ad 3 0)), (1, .int (iv x1))]) X dX3_stemsIn_24 hl rfl (by decide) rfl (fun ls hl => ?_)
      refine lv_goto (tgt := 4) X.1 X.2.1 dX3_stemsIn_27 (by decide) ?_
      exact ih σ x1 v_4 (x3 + 1) _ _ _ hw h (lv_sub hl [2, 3, 1, 0] rfl)
theorem pd_X3_stemsIn : yX3_stemsIn.cls ≠ "java/lang/invoke/MethodHandle" ∧ yX3_stemsIn.cls ≠ "java/lang/invoke/VarHandle" ∧ (parseMethodDescriptor yX3_stemsIn.desc).map (fun d => d.parameters.length) = some 1 := by decide +kernel
set_option maxRecDepth 100000 in
set_option maxHeartbeats 4000000 in
theorem c_X3_stemsIn (l : Launch) (D : va_G) (ct : Nat → ClassId) (ad : Nat → Nat → Nat) (L : List (Nat × Nat)) (φ : Nat → Nat → Nat → Bool) (N0 : Nat) (σ : St) (x1 : Int) (Q : Int → St → Prop) (hw : wp_X3_stemsIn σ x1 Q) : Met l yX3_stemsIn (.code yX3_stemsIn cX3_stemsIn 4 (some .int) :: gw) ({ frames := 0, cells := 0, slots := 0, locals := 0 } : Room) (Pm D ct ad L φ N0 σ [.ref (ad 3 0), .int (iv x1)]) (Qi D ct ad L φ N0 Q) 0 0 (AA N0) := by
  refine m_of (by decide) (fun p e s m below meth c X hnm h => ?_)
  have hF := X.2.2.2.2.2.2.2.2.1
  have hl := lv_entry ([.ref (ad 3 0), .int (iv x1)]) (n := 4) (Nat.le_of_ble_eq_true rfl)
  rw [lg_entry_eq]
  generalize (lg_sl ([.ref (ad 3 0), .int (iv x1)]) ++ List.replicate (4 - (lg_sl ([.ref (ad 3 0), .int (iv x1)])).length) Slot.unset).toArray = ls at hl ⊢
  have hl : lv_has ls 4 [(0, .ref (ad 3 0)), (1, .int (iv x1))] := hl
  have h : Hs D ct ad L φ N0 s.heap σ s.heap [] := h
  unfold wp_X3_stemsIn at hw
  refine j_iconst X dX3_stemsIn_0 ?_
  refine lv_istore_n (lv' := [(2, .int (iv 0)), (0, .ref (ad 3 0)), (1, .int (iv x1))]) X.1 X.2.1 dX3_stemsIn_1 rfl hl (by decide) rfl (fun ls hl => ?_)
  refine j_iconst X dX3_stemsIn_2 ?_
  refine lv_istore_n (lv' := [(3, .int (iv 0)), (2, .int (iv 0)), (0, .ref (ad 3 0)), (1, .int (iv x1))]) X.1 X.2.1 dX3_stemsIn_3 rfl hl (by decide) rfl (fun ls hl => ?_)
  exact hw.elim (fun n4 hw => lb_X3_stemsIn_4 X n4 σ x1 0 0 _ _ _ hw h (lv_sub hl [2, 3, 1, 0] rfl))
end
section
variable {p : Program} {l : Launch} {e : Env} {s : State} {m : MethodId} {args : Array Value} {below : List Frame} {meth : Method} {c : Code} {D : va_G} {ct : Nat → ClassId} {ad : Nat → Nat → Nat} {L : List (Nat × Nat)} {φ : Nat → Nat → Nat → Bool} {N0 : Nat}
variable {Q : Int → St → Prop}
set_option maxRecDepth 100000 in
set_option maxHeartbeats 4000000 in
theorem lb_X3_allStems_4 (X : Cx p s m meth c args cX3_allStems 3 (some .int) RX3 D ct L φ N0) : ∀ (n : Nat) (σ : St) (x1 : Int) (x2 : Int) (H : Heap) (locs : List Loc) (ls : Array Slot), wp_X3_allStems_4 Q n σ x1 x2 → Hs D ct ad L φ N0 s.heap σ H locs → lv_has ls 3 [(0, .ref (ad 3 0)), (1, .int (iv x1)), (2, .int (iv x2))] → W p l e ({ frames := 1, cells := 0, slots := 0, locals := 23 } : Room) s m args below meth c H locs 0 0 (MQ below (Qi D ct ad L φ N0 Q) args s 0 0 (AA N0)) (F0 m 4 ls []) := by
  have hF := X.2.2.2.2.2.2.2.2.1
  intro n
  induction n with
  | zero => intro σ x1 x2 H locs ls hw; exact hw.elim
  | succ n ih =>
    intro σ x1 x2 H locs ls hw h hl
    unfold wp_X3_allStems_4 at hw
    refine lv_iload_n X.1 X.2.1 dX3_allStems_4 rfl (lv_at hl 2 rfl) ?_
    refine j_bipush X dX3_allStems_5 (by decide) ?_
    obtain ⟨g_1, hwt, hwf⟩ := hw
    refine j_cmp_ge (tgt := 24) X g_1 ⟨by decide, by decide⟩ dX3_allStems_7 (by decide) (fun c_5 => ?_) (fun c_5 => ?_)
    · have hw := hwt c_5
      refine lv_iload_n X.1 X.2.1 dX3_allStems_24 rfl (lv_at hl 1 rfl) ?_
      exact k_ir X rfl h hw dX3_allStems_25
    · have hw := hwf c_5
      refine lv_iload_n X.1 X.2.1 dX3_allStems_10 rfl (lv_at hl 1 rfl) ?_
      refine lv_aload_n X.1 X.2.1 dX3_allStems_11 rfl (lv_at hl 0 rfl) ?_
      refine lv_iload_n X.1 X.2.1 dX3_allStems_12 rfl (lv_at hl 2 rfl) ?_
      refine k_i h (r_V (C := RX3) (ci := 3) (As := [.int (iv x2)]) (rest := [.int (iv x1)]) X h (c_X3_stemsIn l D ct ad L φ N0 σ x2 _ hw) rfl rfl ⟨Nat.le_of_ble_eq_true rfl, Nat.le_of_ble_eq_true rfl⟩ kw_1323 kw_592 kw_593 kw_122 kw_594 ⟨rfl, pd_X3_stemsIn⟩ (hF.1 3 rfl).1 rfl rfl rfl hl.1 rfl (Nat.le_of_ble_eq_true rfl) ⟨Nat.le_of_ble_eq_true rfl, Nat.le_of_ble_eq_true rfl⟩ dX3_allStems_13) (fun r_3 σ_2 H locs hw h => ?_)
      refine j_iadd X dX3_allStems_16 ?_
      refine j_bind (fun v_4 ev_4 => ?_)
      have hw := hw v_4 ev_4
      refine lv_istore_n (lv' := [(1, .int (iv v_4)), (0, .ref (ad 3 0)), (2, .int (iv x2))]) X.1 X.2.1 dX3_allStems_17 rfl hl (by decide) rfl (fun ls hl => ?_)
      refine j_iinc (kk9 := 2) (lv' := [(2, .int (iv (x2 + 1))), (1, .int (iv v_4)), (0, .ref (ad 3 0))]) X dX3_allStems_18 hl rfl (by decide) rfl (fun ls hl => ?_)
      refine lv_goto (tgt := 4) X.1 X.2.1 dX3_allStems_21 (by decide) ?_
      exact ih σ_2 v_4 (x2 + 1) _ _ _ hw h (lv_sub hl [2, 1, 0] rfl)
theorem pd_X3_allStems : yX3_allStems.cls ≠ "java/lang/invoke/MethodHandle" ∧ yX3_allStems.cls ≠ "java/lang/invoke/VarHandle" ∧ (parseMethodDescriptor yX3_allStems.desc).map (fun d => d.parameters.length) = some 0 := by decide +kernel
set_option maxRecDepth 100000 in
set_option maxHeartbeats 4000000 in
theorem c_X3_allStems (l : Launch) (D : va_G) (ct : Nat → ClassId) (ad : Nat → Nat → Nat) (L : List (Nat × Nat)) (φ : Nat → Nat → Nat → Bool) (N0 : Nat) (σ : St) (Q : Int → St → Prop) (hw : wp_X3_allStems σ Q) : Met l yX3_allStems (.code yX3_allStems cX3_allStems 3 (some .int) :: gw) ({ frames := 1, cells := 0, slots := 0, locals := 23 } : Room) (Pm D ct ad L φ N0 σ [.ref (ad 3 0)]) (Qi D ct ad L φ N0 Q) 0 0 (AA N0) := by
  refine m_of (by decide) (fun p e s m below meth c X hnm h => ?_)
  have hF := X.2.2.2.2.2.2.2.2.1
  have hl := lv_entry ([.ref (ad 3 0)]) (n := 3) (Nat.le_of_ble_eq_true rfl)
  rw [lg_entry_eq]
  generalize (lg_sl ([.ref (ad 3 0)]) ++ List.replicate (3 - (lg_sl ([.ref (ad 3 0)])).length) Slot.unset).toArray = ls at hl ⊢
  have hl : lv_has ls 3 [(0, .ref (ad 3 0))] := hl
  have h : Hs D ct ad L φ N0 s.heap σ s.heap [] := h
  unfold wp_X3_allStems at hw
  refine j_iconst X dX3_allStems_0 ?_
  refine lv_istore_n (lv' := [(1, .int (iv 0)), (0, .ref (ad 3 0))]) X.1 X.2.1 dX3_allStems_1 rfl hl (by decide) rfl (fun ls hl => ?_)
  refine j_iconst X dX3_allStems_2 ?_
  refine lv_istore_n (lv' := [(2, .int (iv 0)), (1, .int (iv 0)), (0, .ref (ad 3 0))]) X.1 X.2.1 dX3_allStems_3 rfl hl (by decide) rfl (fun ls hl => ?_)
  exact hw.elim (fun n4 hw => lb_X3_allStems_4 X n4 σ 0 0 _ _ _ hw h (lv_sub hl [2, 1, 0] rfl))
end
section
variable {p : Program} {l : Launch} {e : Env} {s : State} {m : MethodId} {args : Array Value} {below : List Frame} {meth : Method} {c : Code} {D : va_G} {ct : Nat → ClassId} {ad : Nat → Nat → Nat} {L : List (Nat × Nat)} {φ : Nat → Nat → Nat → Bool} {N0 : Nat}
variable {Q : St → Prop}
theorem pd_X3_takeStem : yX3_takeStem.cls ≠ "java/lang/invoke/MethodHandle" ∧ yX3_takeStem.cls ≠ "java/lang/invoke/VarHandle" ∧ (parseMethodDescriptor yX3_takeStem.desc).map (fun d => d.parameters.length) = some 3 := by decide +kernel
set_option maxRecDepth 100000 in
set_option maxHeartbeats 4000000 in
theorem c_X3_takeStem (l : Launch) (D : va_G) (ct : Nat → ClassId) (ad : Nat → Nat → Nat) (L : List (Nat × Nat)) (φ : Nat → Nat → Nat → Bool) (N0 : Nat) (σ : St) (x1 : Int) (x2 : Int) (x3 : Int) (Q : St → Prop) (hw : wp_X3_takeStem σ x1 x2 x3 Q) : Met l yX3_takeStem (.code yX3_takeStem cX3_takeStem 4 none :: gw) ({ frames := 1, cells := 0, slots := 0, locals := 22 } : Room) (Pm D ct ad L φ N0 σ [.ref (ad 3 0), .int (iv x1), .int (iv x2), .int (iv x3)]) (Qv D ct ad L φ N0 Q) 0 0 (AA N0) := by
  refine m_of (by decide) (fun p e s m below meth c X hnm h => ?_)
  have hF := X.2.2.2.2.2.2.2.2.1
  have hl := lv_entry ([.ref (ad 3 0), .int (iv x1), .int (iv x2), .int (iv x3)]) (n := 4) (Nat.le_of_ble_eq_true rfl)
  rw [lg_entry_eq]
  generalize (lg_sl ([.ref (ad 3 0), .int (iv x1), .int (iv x2), .int (iv x3)]) ++ List.replicate (4 - (lg_sl ([.ref (ad 3 0), .int (iv x1), .int (iv x2), .int (iv x3)])).length) Slot.unset).toArray = ls at hl ⊢
  have hl : lv_has ls 4 [(0, .ref (ad 3 0)), (1, .int (iv x1)), (2, .int (iv x2)), (3, .int (iv x3))] := hl
  have h : Hs D ct ad L φ N0 s.heap σ s.heap [] := h
  unfold wp_X3_takeStem at hw
  refine lv_aload_n X.1 X.2.1 dX3_takeStem_0 rfl (lv_at hl 0 rfl) ?_
  refine r_getR (ci := 3) X inw_3 h (hF.1 3 rfl).1 rfl rfl 2 (by decide) kw_192 rfl ((hF.1 3 rfl).2 2) dX3_takeStem_1 ?_
  refine lv_iload_n X.1 X.2.1 dX3_takeStem_4 rfl (lv_at hl 1 rfl) ?_
  refine lv_iload_n X.1 X.2.1 dX3_takeStem_5 rfl (lv_at hl 2 rfl) ?_
  refine lv_iload_n X.1 X.2.1 dX3_takeStem_6 rfl (lv_at hl 3 rfl) ?_
  refine k_i h (r_S (As := [.int (iv x1), .int (iv x2), .int (iv x3)]) (rest := [.ref (ad 30 0)]) X h (c_X3_stemPlace l D ct ad L φ N0 σ x1 x2 x3 _ hw) rfl rfl ⟨Nat.le_of_ble_eq_true rfl, Nat.le_of_ble_eq_true rfl⟩ kw_789 kw_537 kw_122 kw_538 pd_X3_stemPlace rfl hl.1 rfl (Nat.le_of_ble_eq_true rfl) ⟨Nat.le_of_ble_eq_true rfl, Nat.le_of_ble_eq_true rfl⟩ dX3_takeStem_7) (fun r_2 σ_1 H locs hw h => ?_)
  refine lv_dup2_11 X.1 X.2.1 dX3_takeStem_10 rfl rfl ?_
  obtain ⟨g_3, g_4, hw⟩ := hw
  refine r_iald (n := 1024) X h (hF.1 30 rfl).1 rfl (by decide) g_3 g_4 dX3_takeStem_11 ?_
  refine j_iconst X dX3_takeStem_12 ?_
  refine j_isub X dX3_takeStem_13 ?_
  obtain ⟨g_5, g_6, hw⟩ := hw
  refine r_iast (n := 1024) X h (hF.1 30 rfl).1 (fun _ => rfl) (by decide) g_5 g_6 rfl dX3_takeStem_14 (fun H locs h => ?_)
  obtain ⟨σ_7, eσ_7⟩ : ∃ z : St, z = st σ_1 30 0 (Int.toNat r_2) ((σ_1 30 0 (Int.toNat r_2)) - 1) := ⟨_, rfl⟩
  rw [← eσ_7] at h
  have hw := hw σ_7 eσ_7
  refine lv_aload_n X.1 X.2.1 dX3_takeStem_15 rfl (lv_at hl 0 rfl) ?_
  refine r_getR (ci := 3) X inw_3 h (hF.1 3 rfl).1 rfl rfl 1 (by decide) kw_189 rfl ((hF.1 3 rfl).2 1) dX3_takeStem_16 ?_
  refine lv_iload_n X.1 X.2.1 dX3_takeStem_19 rfl (lv_at hl 1 rfl) ?_
  refine lv_dup2_11 X.1 X.2.1 dX3_takeStem_20 rfl rfl ?_
  obtain ⟨g_8, g_9, hw⟩ := hw
  refine r_iald (n := 64) X h (hF.1 29 rfl).1 rfl (by decide) g_8 g_9 dX3_takeStem_21 ?_
  refine j_iconst X dX3_takeStem_22 ?_
  refine j_iadd X dX3_takeStem_23 ?_
  obtain ⟨g_10, g_11, hw⟩ := hw
  refine r_iast (n := 64) X h (hF.1 29 rfl).1 (fun _ => rfl) (by decide) g_10 g_11 rfl dX3_takeStem_24 (fun H locs h => ?_)
  obtain ⟨σ_12, eσ_12⟩ : ∃ z : St, z = st σ_7 29 0 (Int.toNat x1) ((σ_7 29 0 (Int.toNat x1)) + 3) := ⟨_, rfl⟩
  rw [← eσ_12] at h
  have hw := hw σ_12 eσ_12
  exact k_vr X h hw dX3_takeStem_25
end
section
variable {p : Program} {l : Launch} {e : Env} {s : State} {m : MethodId} {args : Array Value} {below : List Frame} {meth : Method} {c : Code} {D : va_G} {ct : Nat → ClassId} {ad : Nat → Nat → Nat} {L : List (Nat × Nat)} {φ : Nat → Nat → Nat → Bool} {N0 : Nat}
variable {Q : St → Prop}
theorem pd_X3_growClass : yX3_growClass.cls ≠ "java/lang/invoke/MethodHandle" ∧ yX3_growClass.cls ≠ "java/lang/invoke/VarHandle" ∧ (parseMethodDescriptor yX3_growClass.desc).map (fun d => d.parameters.length) = some 2 := by decide +kernel
set_option maxRecDepth 100000 in
set_option maxHeartbeats 4000000 in
theorem c_X3_growClass (l : Launch) (D : va_G) (ct : Nat → ClassId) (ad : Nat → Nat → Nat) (L : List (Nat × Nat)) (φ : Nat → Nat → Nat → Bool) (N0 : Nat) (σ : St) (x1 : Int) (x2 : Int) (Q : St → Prop) (hw : wp_X3_growClass σ x1 x2 Q) : Met l yX3_growClass (.code yX3_growClass cX3_growClass 5 none :: gw) ({ frames := 1, cells := 0, slots := 0, locals := 21 } : Room) (Pm D ct ad L φ N0 σ [.ref (ad 3 0), .int (iv x1), .int (iv x2)]) (Qv D ct ad L φ N0 Q) 0 0 (AA N0) := by
  refine m_of (by decide) (fun p e s m below meth c X hnm h => ?_)
  have hF := X.2.2.2.2.2.2.2.2.1
  have hl := lv_entry ([.ref (ad 3 0), .int (iv x1), .int (iv x2)]) (n := 5) (Nat.le_of_ble_eq_true rfl)
  rw [lg_entry_eq]
  generalize (lg_sl ([.ref (ad 3 0), .int (iv x1), .int (iv x2)]) ++ List.replicate (5 - (lg_sl ([.ref (ad 3 0), .int (iv x1), .int (iv x2)])).length) Slot.unset).toArray = ls at hl ⊢
  have hl : lv_has ls 5 [(0, .ref (ad 3 0)), (1, .int (iv x1)), (2, .int (iv x2))] := hl
  have h : Hs D ct ad L φ N0 s.heap σ s.heap [] := h
  unfold wp_X3_growClass at hw
  refine j_sipush X dX3_growClass_0 (by decide) ?_
  refine lv_aload_n X.1 X.2.1 dX3_growClass_3 rfl (lv_at hl 0 rfl) ?_
  refine r_getR (ci := 3) X inw_3 h (hF.1 3 rfl).1 rfl rfl 2 (by decide) kw_192 rfl ((hF.1 3 rfl).2 2) dX3_growClass_4 ?_
  refine lv_iload_n X.1 X.2.1 dX3_growClass_7 rfl (lv_at hl 1 rfl) ?_
  refine j_iconst X dX3_growClass_8 ?_
  refine j_iadd X dX3_growClass_9 ?_
  obtain ⟨g_1, g_2, hw⟩ := hw
  refine r_iald (n := 1024) X h (hF.1 30 rfl).1 rfl (by decide) g_1 g_2 dX3_growClass_10 ?_
  refine j_isub X dX3_growClass_11 ?_
  refine j_bind (fun v_3 ev_3 => ?_)
  have hw := hw v_3 ev_3
  refine lv_istore_n (lv' := [(3, .int (iv v_3)), (0, .ref (ad 3 0)), (1, .int (iv x1)), (2, .int (iv x2))]) X.1 X.2.1 dX3_growClass_12 rfl hl (by decide) rfl (fun ls hl => ?_)
  refine lv_aload_n X.1 X.2.1 dX3_growClass_13 rfl (lv_at hl 1 rfl) ?_
  refine r_getR (ci := 3) X inw_3 h (hF.1 3 rfl).1 rfl rfl 2 (by decide) kw_192 rfl ((hF.1 3 rfl).2 2) dX3_growClass_14 ?_
  refine lv_iload_n X.1 X.2.1 dX3_growClass_17 rfl (lv_at hl 2 rfl) ?_
  obtain ⟨g_4, g_5, hw⟩ := hw
  refine r_iald (n := 1024) X h (hF.1 30 rfl).1 rfl (by decide) g_4 g_5 dX3_growClass_18 ?_
  refine lv_iload_n X.1 X.2.1 dX3_growClass_19 rfl (lv_at hl 3 rfl) ?_
  refine j_imul X dX3_growClass_20 ?_
  refine j_bipush X dX3_growClass_21 (by decide) ?_
  obtain ⟨g_6, hw⟩ := hw
  refine j_idiv X g_6 ⟨by decide, by decide⟩ (by decide) (by decide) dX3_growClass_23 ?_
  refine lv_iload_n X.1 X.2.1 dX3_growClass_24 rfl (lv_at hl 0 rfl) ?_
  refine k_i h (r_S (As := [.int (iv (Int.tdiv ((σ 30 0 (Int.toNat x1)) * x2) 100)), .int (iv v_3)]) (rest := []) X h (c_J9_min_7cf53 l D ct ad L φ N0 σ (Int.tdiv ((σ 30 0 (Int.toNat x1)) * x2) 100) v_3 _ hw) rfl rfl ⟨Nat.le_of_ble_eq_true rfl, Nat.le_of_ble_eq_true rfl⟩ kw_928 kw_918 kw_130 kw_919 pd_J9_min_7cf53 rfl hl.1 rfl (Nat.le_of_ble_eq_true rfl) ⟨Nat.le_of_ble_eq_true rfl, Nat.le_of_ble_eq_true rfl⟩ dX3_growClass_25) (fun r_8 σ_7 H locs hw h => ?_)
  refine lv_istore (lv' := [(4, .int (iv r_8)), (3, .int (iv v_3)), (0, .ref (ad 3 0)), (1, .int (iv x1)), (2, .int (iv x2))]) X.1 X.2.1 dX3_growClass_28 hl (by decide) rfl (fun ls hl => ?_)
  refine lv_aload_n X.1 X.2.1 dX3_growClass_30 rfl (lv_at hl 2 rfl) ?_
  refine r_getR (ci := 3) X inw_3 h (hF.1 3 rfl).1 rfl rfl 2 (by decide) kw_192 rfl ((hF.1 3 rfl).2 2) dX3_growClass_31 ?_
  refine lv_iload_n X.1 X.2.1 dX3_growClass_34 rfl (lv_at hl 3 rfl) ?_
  refine lv_dup2_11 X.1 X.2.1 dX3_growClass_35 rfl rfl ?_
  obtain ⟨g_9, g_10, hw⟩ := hw
  refine r_iald (n := 1024) X h (hF.1 30 rfl).1 rfl (by decide) g_9 g_10 dX3_growClass_36 ?_
  refine lv_iload X.1 X.2.1 dX3_growClass_37 (lv_at hl 0 rfl) ?_
  refine j_isub X dX3_growClass_39 ?_
  obtain ⟨g_11, g_12, hw⟩ := hw
  refine r_iast (n := 1024) X h (hF.1 30 rfl).1 (fun _ => rfl) (by decide) g_11 g_12 rfl dX3_growClass_40 (fun H locs h => ?_)
  obtain ⟨σ_13, eσ_13⟩ : ∃ z : St, z = st σ_7 30 0 (Int.toNat x1) ((σ_7 30 0 (Int.toNat x1)) - r_8) := ⟨_, rfl⟩
  rw [← eσ_13] at h
  have hw := hw σ_13 eσ_13
  refine lv_aload_n X.1 X.2.1 dX3_growClass_41 rfl (lv_at hl 2 rfl) ?_
  refine r_getR (ci := 3) X inw_3 h (hF.1 3 rfl).1 rfl rfl 2 (by decide) kw_192 rfl ((hF.1 3 rfl).2 2) dX3_growClass_42 ?_
  refine lv_iload_n X.1 X.2.1 dX3_growClass_45 rfl (lv_at hl 3 rfl) ?_
  refine j_iconst X dX3_growClass_46 ?_
  refine j_iadd X dX3_growClass_47 ?_
  refine lv_dup2_11 X.1 X.2.1 dX3_growClass_48 rfl rfl ?_
  obtain ⟨g_14, g_15, hw⟩ := hw
  refine r_iald (n := 1024) X h (hF.1 30 rfl).1 rfl (by decide) g_14 g_15 dX3_growClass_49 ?_
  refine lv_iload X.1 X.2.1 dX3_growClass_50 (lv_at hl 0 rfl) ?_
  refine j_iadd X dX3_growClass_52 ?_
  obtain ⟨g_16, g_17, hw⟩ := hw
  refine r_iast (n := 1024) X h (hF.1 30 rfl).1 (fun _ => rfl) (by decide) g_16 g_17 rfl dX3_growClass_53 (fun H locs h => ?_)
  obtain ⟨σ_18, eσ_18⟩ : ∃ z : St, z = st σ_13 30 0 (Int.toNat (x1 + 1)) ((σ_13 30 0 (Int.toNat (x1 + 1))) + r_8) := ⟨_, rfl⟩
  rw [← eσ_18] at h
  have hw := hw σ_18 eσ_18
  exact k_vr X h hw dX3_growClass_54
end
section
variable {p : Program} {l : Launch} {e : Env} {s : State} {m : MethodId} {args : Array Value} {below : List Frame} {meth : Method} {c : Code} {D : va_G} {ct : Nat → ClassId} {ad : Nat → Nat → Nat} {L : List (Nat × Nat)} {φ : Nat → Nat → Nat → Bool} {N0 : Nat}
variable {Q : St → Prop}
set_option maxRecDepth 100000 in
set_option maxHeartbeats 4000000 in
theorem lb_X3_endYear_49 (X : Cx p s m meth c args cX3_endYear 4 none RX3 D ct L φ N0) {K2 : St → Int → Prop} (hK2 : ∀ (σ : St) (x1 : Int) (H : Heap) (locs : List Loc) (ls : Array Slot), K2 σ x1 → Hs D ct ad L φ N0 s.heap σ H locs → lv_has ls 4 [(0, .ref (ad 3 0)), (1, .int (iv x1))] → W p l e ({ frames := 2, cells := 0, slots := 0, locals := 45 } : Room) s m args below meth c H locs 0 0 (MQ below (Qv D ct ad L φ N0 Q) args s 0 0 (AA N0)) (F0 m 2 ls [])) (σ : St) (x1 : Int) (H : Heap) (locs : List Loc) (ls : Array Slot) (hw : wp_X3_endYear_49 K2 Q σ x1) (h : Hs D ct ad L φ N0 s.heap σ H locs) (hl : lv_has ls 4 [(0, .ref (ad 3 0)), (1, .int (iv x1))]) : W p l e ({ frames := 2, cells := 0, slots := 0, locals := 45 } : Room) s m args below meth c H locs 0 0 (MQ below (Qv D ct ad L φ N0 Q) args s 0 0 (AA N0)) (F0 m 49 ls []) := by
  have hF := X.2.2.2.2.2.2.2.2.1
  unfold wp_X3_endYear_49 at hw
  refine lv_aload_n X.1 X.2.1 dX3_endYear_49 rfl (lv_at hl 0 rfl) ?_
  refine r_getR (ci := 3) X inw_3 h (hF.1 3 rfl).1 rfl rfl 1 (by decide) kw_189 rfl ((hF.1 3 rfl).2 1) dX3_endYear_50 ?_
  refine lv_iload_n X.1 X.2.1 dX3_endYear_53 rfl (lv_at hl 1 rfl) ?_
  refine lv_dup2_11 X.1 X.2.1 dX3_endYear_54 rfl rfl ?_
  obtain ⟨g_1, g_2, hw⟩ := hw
  refine r_iald (n := 64) X h (hF.1 29 rfl).1 rfl (by decide) g_1 g_2 dX3_endYear_55 ?_
  refine j_iconst X dX3_endYear_56 ?_
  obtain ⟨g_3, hw⟩ := hw
  refine j_idiv X g_3 ⟨by decide, by decide⟩ (by decide) (by decide) dX3_endYear_57 ?_
  obtain ⟨g_4, g_5, hw⟩ := hw
  refine r_iast (n := 64) X h (hF.1 29 rfl).1 (fun _ => rfl) (by decide) g_4 g_5 rfl dX3_endYear_58 (fun H locs h => ?_)
  obtain ⟨σ_6, eσ_6⟩ : ∃ z : St, z = st σ 29 0 (Int.toNat x1) (Int.tdiv (σ 29 0 (Int.toNat x1)) 2) := ⟨_, rfl⟩
  rw [← eσ_6] at h
  have hw := hw σ_6 eσ_6
  refine j_iinc (kk9 := 1) (lv' := [(1, .int (iv (x1 + 1))), (0, .ref (ad 3 0))]) X dX3_endYear_59 hl rfl (by decide) rfl (fun ls hl => ?_)
  refine lv_goto (tgt := 2) X.1 X.2.1 dX3_endYear_62 (by decide) ?_
  exact hK2 σ_6 (x1 + 1) _ _ _ hw h (lv_sub hl [1, 0] rfl)
set_option maxRecDepth 100000 in
set_option maxHeartbeats 4000000 in
theorem lb_X3_endYear_43 (X : Cx p s m meth c args cX3_endYear 4 none RX3 D ct L φ N0) {K10 : St → Int → Int → Prop} {K49 : St → Int → Prop} (hK10 : ∀ (σ : St) (x1 : Int) (x2 : Int) (H : Heap) (locs : List Loc) (ls : Array Slot), K10 σ x1 x2 → Hs D ct ad L φ N0 s.heap σ H locs → lv_has ls 4 [(0, .ref (ad 3 0)), (1, .int (iv x1)), (2, .int (iv x2))] → W p l e ({ frames := 2, cells := 0, slots := 0, locals := 45 } : Room) s m args below meth c H locs 0 0 (MQ below (Qv D ct ad L φ N0 Q) args s 0 0 (AA N0)) (F0 m 10 ls [])) (hK49 : ∀ (σ : St) (x1 : Int) (H : Heap) (locs : List Loc) (ls : Array Slot), K49 σ x1 → Hs D ct ad L φ N0 s.heap σ H locs → lv_has ls 4 [(0, .ref (ad 3 0)), (1, .int (iv x1))] → W p l e ({ frames := 2, cells := 0, slots := 0, locals := 45 } : Room) s m args below meth c H locs 0 0 (MQ below (Qv D ct ad L φ N0 Q) args s 0 0 (AA N0)) (F0 m 49 ls [])) (σ : St) (x1 : Int) (x2 : Int) (H : Heap) (locs : List Loc) (ls : Array Slot) (hw : wp_X3_endYear_43 K10 K49 Q σ x1 x2) (h : Hs D ct ad L φ N0 s.heap σ H locs) (hl : lv_has ls 4 [(0, .ref (ad 3 0)), (1, .int (iv x1)), (2, .int (iv x2))]) : W p l e ({ frames := 2, cells := 0, slots := 0, locals := 45 } : Room) s m args below meth c H locs 0 0 (MQ below (Qv D ct ad L φ N0 Q) args s 0 0 (AA N0)) (F0 m 43 ls []) := by
  have hF := X.2.2.2.2.2.2.2.2.1
  unfold wp_X3_endYear_43 at hw
  refine j_iinc (kk9 := 2) (lv' := [(2, .int (iv (x2 + 1))), (0, .ref (ad 3 0)), (1, .int (iv x1))]) X dX3_endYear_43 hl rfl (by decide) rfl (fun ls hl => ?_)
  refine lv_goto (tgt := 10) X.1 X.2.1 dX3_endYear_46 (by decide) ?_
  exact hK10 σ x1 (x2 + 1) _ _ _ hw h (lv_sub hl [1, 2, 0] rfl)
set_option maxRecDepth 100000 in
set_option maxHeartbeats 4000000 in
theorem lb_X3_endYear_17 (X : Cx p s m meth c args cX3_endYear 4 none RX3 D ct L φ N0) {K43 : St → Int → Int → Prop} (hK43 : ∀ (σ : St) (x1 : Int) (x2 : Int) (H : Heap) (locs : List Loc) (ls : Array Slot), K43 σ x1 x2 → Hs D ct ad L φ N0 s.heap σ H locs → lv_has ls 4 [(0, .ref (ad 3 0)), (1, .int (iv x1)), (2, .int (iv x2))] → W p l e ({ frames := 2, cells := 0, slots := 0, locals := 45 } : Room) s m args below meth c H locs 0 0 (MQ below (Qv D ct ad L φ N0 Q) args s 0 0 (AA N0)) (F0 m 43 ls [])) : ∀ (n : Nat) (σ : St) (x1 : Int) (x2 : Int) (x3 : Int) (H : Heap) (locs : List Loc) (ls : Array Slot), wp_X3_endYear_17 K43 Q n σ x1 x2 x3 → Hs D ct ad L φ N0 s.heap σ H locs → lv_has ls 4 [(0, .ref (ad 3 0)), (1, .int (iv x1)), (2, .int (iv x2)), (3, .int (iv x3))] → W p l e ({ frames := 2, cells := 0, slots := 0, locals := 45 } : Room) s m args below meth c H locs 0 0 (MQ below (Qv D ct ad L φ N0 Q) args s 0 0 (AA N0)) (F0 m 17 ls []) := by
  have hF := X.2.2.2.2.2.2.2.2.1
  intro n
  induction n with
  | zero => intro σ x1 x2 x3 H locs ls hw; exact hw.elim
  | succ n ih =>
    intro σ x1 x2 x3 H locs ls hw h hl
    unfold wp_X3_endYear_17 at hw
    refine lv_iload_n X.1 X.2.1 dX3_endYear_17 rfl (lv_at hl 3 rfl) ?_
    obtain ⟨g_7, hwt, hwf⟩ := hw
    refine j_if_lt (tgt := 43) X g_7 dX3_endYear_18 (by decide) (fun c_13 => ?_) (fun c_13 => ?_)
    · have hw := hwt c_13
      exact hK43 σ x1 x2 _ _ _ hw h (lv_sub hl [0, 1, 2] rfl)
    · have hw := hwf c_13
      refine lv_aload_n X.1 X.2.1 dX3_endYear_21 rfl (lv_at hl 0 rfl) ?_
      refine lv_iload_n X.1 X.2.1 dX3_endYear_22 rfl (lv_at hl 1 rfl) ?_
      refine lv_iload_n X.1 X.2.1 dX3_endYear_23 rfl (lv_at hl 2 rfl) ?_
      refine lv_iload_n X.1 X.2.1 dX3_endYear_24 rfl (lv_at hl 3 rfl) ?_
      refine k_i h (r_S (As := [.int (iv x1), .int (iv x2), .int (iv x3)]) (rest := [.ref (ad 3 0)]) X h (c_X3_stemPlace l D ct ad L φ N0 σ x1 x2 x3 _ hw) rfl rfl ⟨Nat.le_of_ble_eq_true rfl, Nat.le_of_ble_eq_true rfl⟩ kw_789 kw_537 kw_122 kw_538 pd_X3_stemPlace rfl hl.1 rfl (Nat.le_of_ble_eq_true rfl) ⟨Nat.le_of_ble_eq_true rfl, Nat.le_of_ble_eq_true rfl⟩ dX3_endYear_25) (fun r_9 σ_8 H locs hw h => ?_)
      refine lv_aload_n X.1 X.2.1 dX3_endYear_28 rfl (lv_at hl 0 rfl) ?_
      refine r_getR (ci := 3) X inw_3 h (hF.1 3 rfl).1 rfl rfl 4 (by decide) kw_196 rfl ((hF.1 3 rfl).2 4) dX3_endYear_29 ?_
      refine lv_iload_n X.1 X.2.1 dX3_endYear_32 rfl (lv_at hl 2 rfl) ?_
      obtain ⟨g_10, g_11, hw⟩ := hw
      refine r_iald (n := 4) X h (hF.1 32 rfl).1 rfl (by decide) g_10 g_11 dX3_endYear_33 ?_
      refine k_v h (r_V (C := RX3) (ci := 3) (As := [.int (iv r_9), .int (iv (σ_8 32 0 (Int.toNat x2)))]) (rest := []) X h (c_X3_growClass l D ct ad L φ N0 σ_8 r_9 (σ_8 32 0 (Int.toNat x2)) _ hw) rfl rfl ⟨Nat.le_of_ble_eq_true rfl, Nat.le_of_ble_eq_true rfl⟩ kw_924 kw_926 kw_22 kw_122 kw_927 ⟨rfl, pd_X3_growClass⟩ (hF.1 3 rfl).1 rfl rfl rfl hl.1 rfl (Nat.le_of_ble_eq_true rfl) ⟨Nat.le_of_ble_eq_true rfl, Nat.le_of_ble_eq_true rfl⟩ dX3_endYear_34) (fun σ_12 H locs hw h => ?_)
      refine j_iinc (kk9 := 3) (lv' := [(3, .int (iv (x3 + (-1)))), (0, .ref (ad 3 0)), (1, .int (iv x1)), (2, .int (iv x2))]) X dX3_endYear_37 hl rfl (by decide) rfl (fun ls hl => ?_)
      refine lv_goto (tgt := 17) X.1 X.2.1 dX3_endYear_40 (by decide) ?_
      exact ih σ_12 x1 x2 (x3 + (-1)) _ _ _ hw h (lv_sub hl [1, 2, 3, 0] rfl)
set_option maxRecDepth 100000 in
set_option maxHeartbeats 4000000 in
theorem lb_X3_endYear_10 (X : Cx p s m meth c args cX3_endYear 4 none RX3 D ct L φ N0) {K49 : St → Int → Prop} (hK49 : ∀ (σ : St) (x1 : Int) (H : Heap) (locs : List Loc) (ls : Array Slot), K49 σ x1 → Hs D ct ad L φ N0 s.heap σ H locs → lv_has ls 4 [(0, .ref (ad 3 0)), (1, .int (iv x1))] → W p l e ({ frames := 2, cells := 0, slots := 0, locals := 45 } : Room) s m args below meth c H locs 0 0 (MQ below (Qv D ct ad L φ N0 Q) args s 0 0 (AA N0)) (F0 m 49 ls [])) : ∀ (n : Nat) (σ : St) (x1 : Int) (x2 : Int) (H : Heap) (locs : List Loc) (ls : Array Slot), wp_X3_endYear_10 K49 Q n σ x1 x2 → Hs D ct ad L φ N0 s.heap σ H locs → lv_has ls 4 [(0, .ref (ad 3 0)), (1, .int (iv x1)), (2, .int (iv x2))] → W p l e ({ frames := 2, cells := 0, slots := 0, locals := 45 } : Room) s m args below meth c H locs 0 0 (MQ below (Qv D ct ad L φ N0 Q) args s 0 0 (AA N0)) (F0 m 10 ls []) := by
  have hF := X.2.2.2.2.2.2.2.2.1
  intro n
  induction n with
  | zero => intro σ x1 x2 H locs ls hw; exact hw.elim
  | succ n ih =>
    intro σ x1 x2 H locs ls hw h hl
    unfold wp_X3_endYear_10 at hw
    refine lv_iload_n X.1 X.2.1 dX3_endYear_10 rfl (lv_at hl 2 rfl) ?_
    refine j_iconst X dX3_endYear_11 ?_
    obtain ⟨g_14, hwt, hwf⟩ := hw
    refine j_cmp_ge (tgt := 49) X g_14 ⟨by decide, by decide⟩ dX3_endYear_12 (by decide) (fun c_15 => ?_) (fun c_15 => ?_)
    · have hw := hwt c_15
      exact hK49 σ x1 _ _ _ hw h (lv_sub hl [0, 1] rfl)
    · have hw := hwf c_15
      refine j_iconst X dX3_endYear_15 ?_
      refine lv_istore_n (lv' := [(3, .int (iv 2)), (0, .ref (ad 3 0)), (1, .int (iv x1)), (2, .int (iv x2))]) X.1 X.2.1 dX3_endYear_16 rfl hl (by decide) rfl (fun ls hl => ?_)
      exact hw.elim (fun n17 hw => lb_X3_endYear_17 X (lb_X3_endYear_43 X ih hK49) n17 σ x1 x2 2 _ _ _ hw h (lv_sub hl [1, 2, 3, 0] rfl))
set_option maxRecDepth 100000 in
set_option maxHeartbeats 4000000 in
theorem lb_X3_endYear_2 (X : Cx p s m meth c args cX3_endYear 4 none RX3 D ct L φ N0) : ∀ (n : Nat) (σ : St) (x1 : Int) (H : Heap) (locs : List Loc) (ls : Array Slot), wp_X3_endYear_2 Q n σ x1 → Hs D ct ad L φ N0 s.heap σ H locs → lv_has ls 4 [(0, .ref (ad 3 0)), (1, .int (iv x1))] → W p l e ({ frames := 2, cells := 0, slots := 0, locals := 45 } : Room) s m args below meth c H locs 0 0 (MQ below (Qv D ct ad L φ N0 Q) args s 0 0 (AA N0)) (F0 m 2 ls []) := by
  have hF := X.2.2.2.2.2.2.2.2.1
  intro n
  induction n with
  | zero => intro σ x1 H locs ls hw; exact hw.elim
  | succ n ih =>
    intro σ x1 H locs ls hw h hl
    unfold wp_X3_endYear_2 at hw
    refine lv_iload_n X.1 X.2.1 dX3_endYear_2 rfl (lv_at hl 1 rfl) ?_
    refine j_bipush X dX3_endYear_3 (by decide) ?_
    obtain ⟨g_16, hwt, hwf⟩ := hw
    refine j_cmp_ge (tgt := 65) X g_16 ⟨by decide, by decide⟩ dX3_endYear_5 (by decide) (fun c_17 => ?_) (fun c_17 => ?_)
    · have hw := hwt c_17
      exact k_vr X h hw dX3_endYear_65
    · have hw := hwf c_17
      refine j_iconst X dX3_endYear_8 ?_
      refine lv_istore_n (lv' := [(2, .int (iv 0)), (0, .ref (ad 3 0)), (1, .int (iv x1))]) X.1 X.2.1 dX3_endYear_9 rfl hl (by decide) rfl (fun ls hl => ?_)
      exact hw.elim (fun n10 hw => lb_X3_endYear_10 X (lb_X3_endYear_49 X ih) n10 σ x1 0 _ _ _ hw h (lv_sub hl [1, 2, 0] rfl))
theorem pd_X3_endYear : yX3_endYear.cls ≠ "java/lang/invoke/MethodHandle" ∧ yX3_endYear.cls ≠ "java/lang/invoke/VarHandle" ∧ (parseMethodDescriptor yX3_endYear.desc).map (fun d => d.parameters.length) = some 0 := by decide +kernel
set_option maxRecDepth 100000 in
set_option maxHeartbeats 4000000 in
theorem c_X3_endYear (l : Launch) (D : va_G) (ct : Nat → ClassId) (ad : Nat → Nat → Nat) (L : List (Nat × Nat)) (φ : Nat → Nat → Nat → Bool) (N0 : Nat) (σ : St) (Q : St → Prop) (hw : wp_X3_endYear σ Q) : Met l yX3_endYear (.code yX3_endYear cX3_endYear 4 none :: gw) ({ frames := 2, cells := 0, slots := 0, locals := 45 } : Room) (Pm D ct ad L φ N0 σ [.ref (ad 3 0)]) (Qv D ct ad L φ N0 Q) 0 0 (AA N0) := by
  refine m_of (by decide) (fun p e s m below meth c X hnm h => ?_)
  have hF := X.2.2.2.2.2.2.2.2.1
  have hl := lv_entry ([.ref (ad 3 0)]) (n := 4) (Nat.le_of_ble_eq_true rfl)
  rw [lg_entry_eq]
  generalize (lg_sl ([.ref (ad 3 0)]) ++ List.replicate (4 - (lg_sl ([.ref (ad 3 0)])).length) Slot.unset).toArray = ls at hl ⊢
  have hl : lv_has ls 4 [(0, .ref (ad 3 0))] := hl
  have h : Hs D ct ad L φ N0 s.heap σ s.heap [] := h
  unfold wp_X3_endYear at hw
  refine j_iconst X dX3_endYear_0 ?_
  refine lv_istore_n (lv' := [(1, .int (iv 0)), (0, .ref (ad 3 0))]) X.1 X.2.1 dX3_endYear_1 rfl hl (by decide) rfl (fun ls hl => ?_)
  exact hw.elim (fun n2 hw => lb_X3_endYear_2 X n2 σ 0 _ _ _ hw h (lv_sub hl [1, 0] rfl))
end
section
variable {p : Program} {l : Launch} {e : Env} {s : State} {m : MethodId} {args : Array Value} {below : List Frame} {meth : Method} {c : Code} {D : va_G} {ct : Nat → ClassId} {ad : Nat → Nat → Nat} {L : List (Nat × Nat)} {φ : Nat → Nat → Nat → Bool} {N0 : Nat}
variable {Q : Int → St → Prop}
theorem pd_X3_beside : yX3_beside.cls ≠ "java/lang/invoke/MethodHandle" ∧ yX3_beside.cls ≠ "java/lang/invoke/VarHandle" ∧ (parseMethodDescriptor yX3_beside.desc).map (fun d => d.parameters.length) = some 2 := by decide +kernel
set_option maxRecDepth 100000 in
set_option maxHeartbeats 4000000 in
theorem c_X3_beside (l : Launch) (D : va_G) (ct : Nat → ClassId) (ad : Nat → Nat → Nat) (L : List (Nat × Nat)) (φ : Nat → Nat → Nat → Bool) (N0 : Nat) (σ : St) (x0 : Int) (x1 : Int) (Q : Int → St → Prop) (hw : wp_X3_beside σ x0 x1 Q) : Met l yX3_beside (.code yX3_beside cX3_beside 4 (some .int) :: gw) ({ frames := 0, cells := 0, slots := 0, locals := 0 } : Room) (Pm D ct ad L φ N0 σ [.int (iv x0), .int (iv x1)]) (Qi D ct ad L φ N0 Q) 0 0 (AA N0) := by
  refine m_of (by decide) (fun p e s m below meth c X hnm h => ?_)
  have hF := X.2.2.2.2.2.2.2.2.1
  have hl := lv_entry ([.int (iv x0), .int (iv x1)]) (n := 4) (Nat.le_of_ble_eq_true rfl)
  rw [lg_entry_eq]
  generalize (lg_sl ([.int (iv x0), .int (iv x1)]) ++ List.replicate (4 - (lg_sl ([.int (iv x0), .int (iv x1)])).length) Slot.unset).toArray = ls at hl ⊢
  have hl : lv_has ls 4 [(0, .int (iv x0)), (1, .int (iv x1))] := hl
  have h : Hs D ct ad L φ N0 s.heap σ s.heap [] := h
  unfold wp_X3_beside at hw
  refine lv_iload_n X.1 X.2.1 dX3_beside_0 rfl (lv_at hl 0 rfl) ?_
  refine j_bipush X dX3_beside_1 (by decide) ?_
  obtain ⟨g_1, hw⟩ := hw
  refine j_irem X g_1 ⟨by decide, by decide⟩ (by decide) (by decide) dX3_beside_3 ?_
  refine j_bind (fun v_2 ev_2 => ?_)
  have hw := hw v_2 ev_2
  refine lv_istore_n (lv' := [(2, .int (iv v_2)), (0, .int (iv x0)), (1, .int (iv x1))]) X.1 X.2.1 dX3_beside_4 rfl hl (by decide) rfl (fun ls hl => ?_)
  refine lv_iload_n X.1 X.2.1 dX3_beside_5 rfl (lv_at hl 1 rfl) ?_
  refine j_bipush X dX3_beside_6 (by decide) ?_
  obtain ⟨g_3, hw⟩ := hw
  refine j_idiv X g_3 ⟨by decide, by decide⟩ (by decide) (by decide) dX3_beside_8 ?_
  refine j_bind (fun v_4 ev_4 => ?_)
  have hw := hw v_4 ev_4
  refine lv_istore_n (lv' := [(3, .int (iv v_4)), (2, .int (iv v_2)), (0, .int (iv x0)), (1, .int (iv x1))]) X.1 X.2.1 dX3_beside_9 rfl hl (by decide) rfl (fun ls hl => ?_)
  refine lv_iload_n X.1 X.2.1 dX3_beside_10 rfl (lv_at hl 3 rfl) ?_
  obtain ⟨g_5, hw0, hw1, hw2, hw3⟩ := hw
  by_cases c_14 : x1 = 0
  · have hw := hw0 c_14
    refine j_tin (v := 0) (tgt := 36) X g_5 c_14 dX3_beside_11 (by decide) (by decide) rfl (by decide) ?_
    refine lv_iload_n X.1 X.2.1 dX3_beside_36 rfl (lv_at hl 1 rfl) ?_
    refine j_bipush X dX3_beside_37 (by decide) ?_
    obtain ⟨g_6, hwt, hwf⟩ := hw
    refine j_cmp_ge (tgt := 48) X g_6 ⟨by decide, by decide⟩ dX3_beside_39 (by decide) (fun c_7 => ?_) (fun c_7 => ?_)
    · have hw := hwt c_7
      refine j_iconst X dX3_beside_48 ?_
      exact k_ir X rfl h hw dX3_beside_49
    · have hw := hwf c_7
      refine lv_iload_n X.1 X.2.1 dX3_beside_42 rfl (lv_at hl 2 rfl) ?_
      refine j_iconst X dX3_beside_43 ?_
      refine j_iadd X dX3_beside_44 ?_
      refine lv_goto (tgt := 49) X.1 X.2.1 dX3_beside_45 (by decide) ?_
      exact k_ir X rfl h hw dX3_beside_49
  by_cases c_15 : x1 = 1
  · have hw := hw1 c_15
    refine j_tin (v := 1) (tgt := 50) X g_5 c_15 dX3_beside_11 (by decide) (by decide) rfl (by decide) ?_
    refine lv_iload_n X.1 X.2.1 dX3_beside_50 rfl (lv_at hl 1 rfl) ?_
    obtain ⟨g_8, hwt, hwf⟩ := hw
    refine j_if_le (tgt := 60) X g_8 dX3_beside_51 (by decide) (fun c_9 => ?_) (fun c_9 => ?_)
    · have hw := hwt c_9
      refine j_iconst X dX3_beside_60 ?_
      exact k_ir X rfl h hw dX3_beside_61
    · have hw := hwf c_9
      refine lv_iload_n X.1 X.2.1 dX3_beside_54 rfl (lv_at hl 2 rfl) ?_
      refine j_iconst X dX3_beside_55 ?_
      refine j_isub X dX3_beside_56 ?_
      refine lv_goto (tgt := 61) X.1 X.2.1 dX3_beside_57 (by decide) ?_
      exact k_ir X rfl h hw dX3_beside_61
  by_cases c_16 : x1 = 2
  · have hw := hw2 c_16
    refine j_tin (v := 2) (tgt := 62) X g_5 c_16 dX3_beside_11 (by decide) (by decide) rfl (by decide) ?_
    refine lv_iload_n X.1 X.2.1 dX3_beside_62 rfl (lv_at hl 0 rfl) ?_
    refine j_bipush X dX3_beside_63 (by decide) ?_
    obtain ⟨g_10, hwt, hwf⟩ := hw
    refine j_cmp_ge (tgt := 75) X g_10 ⟨by decide, by decide⟩ dX3_beside_65 (by decide) (fun c_11 => ?_) (fun c_11 => ?_)
    · have hw := hwt c_11
      refine j_iconst X dX3_beside_75 ?_
      exact k_ir X rfl h hw dX3_beside_76
    · have hw := hwf c_11
      refine lv_iload_n X.1 X.2.1 dX3_beside_68 rfl (lv_at hl 2 rfl) ?_
      refine j_bipush X dX3_beside_69 (by decide) ?_
      refine j_iadd X dX3_beside_71 ?_
      refine lv_goto (tgt := 76) X.1 X.2.1 dX3_beside_72 (by decide) ?_
      exact k_ir X rfl h hw dX3_beside_76
  have c_17 : x1 < 0 ∨ 2 < x1 := by omega
  have hw := hw3 c_17
  refine j_tout (tgt := 77) X g_5 c_17 dX3_beside_11 (by decide) ?_
  refine lv_iload_n X.1 X.2.1 dX3_beside_77 rfl (lv_at hl 0 rfl) ?_
  obtain ⟨g_12, hwt, hwf⟩ := hw
  refine j_if_le (tgt := 88) X g_12 dX3_beside_78 (by decide) (fun c_13 => ?_) (fun c_13 => ?_)
  · have hw := hwt c_13
    refine j_iconst X dX3_beside_88 ?_
    exact k_ir X rfl h hw dX3_beside_89
  · have hw := hwf c_13
    refine lv_iload_n X.1 X.2.1 dX3_beside_81 rfl (lv_at hl 2 rfl) ?_
    refine j_bipush X dX3_beside_82 (by decide) ?_
    refine j_isub X dX3_beside_84 ?_
    refine lv_goto (tgt := 89) X.1 X.2.1 dX3_beside_85 (by decide) ?_
    exact k_ir X rfl h hw dX3_beside_89
end
section
variable {p : Program} {l : Launch} {e : Env} {s : State} {m : MethodId} {args : Array Value} {below : List Frame} {meth : Method} {c : Code} {D : va_G} {ct : Nat → ClassId} {ad : Nat → Nat → Nat} {L : List (Nat × Nat)} {φ : Nat → Nat → Nat → Bool} {N0 : Nat}
variable {Q : Int → St → Prop}
theorem pd_X3_windAid : yX3_windAid.cls ≠ "java/lang/invoke/MethodHandle" ∧ yX3_windAid.cls ≠ "java/lang/invoke/VarHandle" ∧ (parseMethodDescriptor yX3_windAid.desc).map (fun d => d.parameters.length) = some 2 := by decide +kernel
set_option maxRecDepth 100000 in
set_option maxHeartbeats 4000000 in
theorem c_X3_windAid (l : Launch) (D : va_G) (ct : Nat → ClassId) (ad : Nat → Nat → Nat) (L : List (Nat × Nat)) (φ : Nat → Nat → Nat → Bool) (N0 : Nat) (σ : St) (x0 : Int) (x1 : Int) (Q : Int → St → Prop) (hw : wp_X3_windAid σ x0 x1 Q) : Met l yX3_windAid (.code yX3_windAid cX3_windAid 2 (some .int) :: gw) ({ frames := 0, cells := 0, slots := 0, locals := 0 } : Room) (Pm D ct ad L φ N0 σ [.int (iv x0), .int (iv x1)]) (Qi D ct ad L φ N0 Q) 0 0 (AA N0) := by
  refine m_of (by decide) (fun p e s m below meth c X hnm h => ?_)
  have hF := X.2.2.2.2.2.2.2.2.1
  have hl := lv_entry ([.int (iv x0), .int (iv x1)]) (n := 2) (Nat.le_of_ble_eq_true rfl)
  rw [lg_entry_eq]
  generalize (lg_sl ([.int (iv x0), .int (iv x1)]) ++ List.replicate (2 - (lg_sl ([.int (iv x0), .int (iv x1)])).length) Slot.unset).toArray = ls at hl ⊢
  have hl : lv_has ls 2 [(0, .int (iv x0)), (1, .int (iv x1))] := hl
  have h : Hs D ct ad L φ N0 s.heap σ s.heap [] := h
  unfold wp_X3_windAid at hw
  refine lv_iload_n X.1 X.2.1 dX3_windAid_0 rfl (lv_at hl 0 rfl) ?_
  refine lv_iload_n X.1 X.2.1 dX3_windAid_1 rfl (lv_at hl 1 rfl) ?_
  obtain ⟨g_1, g_2, hwt, hwf⟩ := hw
  refine j_cmp_ne (tgt := 8) X g_1 g_2 dX3_windAid_2 (by decide) (fun c_6 => ?_) (fun c_6 => ?_)
  · have hw := hwt c_6
    refine lv_iload_n X.1 X.2.1 dX3_windAid_8 rfl (lv_at hl 0 rfl) ?_
    refine lv_iload_n X.1 X.2.1 dX3_windAid_9 rfl (lv_at hl 1 rfl) ?_
    refine j_iconst X dX3_windAid_10 ?_
    refine j_ixor X dX3_windAid_11 ?_
    obtain ⟨g_3, g_4, hwt, hwf⟩ := hw
    refine j_cmp_ne (tgt := 20) X g_3 g_4 dX3_windAid_12 (by decide) (fun c_5 => ?_) (fun c_5 => ?_)
    · have hw := hwt c_5
      refine j_iconst X dX3_windAid_20 ?_
      exact k_ir X rfl h hw dX3_windAid_21
    · have hw := hwf c_5
      refine j_bipush X dX3_windAid_15 (by decide) ?_
      refine lv_goto (tgt := 21) X.1 X.2.1 dX3_windAid_17 (by decide) ?_
      exact k_ir X rfl h hw dX3_windAid_21
  · have hw := hwf c_6
    refine j_bipush X dX3_windAid_5 (by decide) ?_
    exact k_ir X rfl h hw dX3_windAid_7
end
section
variable {p : Program} {l : Launch} {e : Env} {s : State} {m : MethodId} {args : Array Value} {below : List Frame} {meth : Method} {c : Code} {D : va_G} {ct : Nat → ClassId} {ad : Nat → Nat → Nat} {L : List (Nat × Nat)} {φ : Nat → Nat → Nat → Bool} {N0 : Nat}
variable {Q : Int → St → Prop}
set_option maxRecDepth 100000 in
set_option maxHeartbeats 4000000 in
theorem lb_X3_catches_43 (X : Cx p s m meth c args cX3_catches 6 (some .boolean) RX3 D ct L φ N0) (σ : St) (x2 : Int) (x3 : Int) (x4 : Int) (y0 : Int) (H : Heap) (locs : List Loc) (ls : Array Slot) (hw : wp_X3_catches_43 Q σ x2 x3 x4 y0) (h : Hs D ct ad L φ N0 s.heap σ H locs) (hl : lv_has ls 6 [(0, .ref (ad 3 0)), (2, .int (iv x2)), (3, .int (iv x3)), (4, .int (iv x4))]) : W p l e ({ frames := 1, cells := 0, slots := 0, locals := 23 } : Room) s m args below meth c H locs 0 0 (MQ below (Qi D ct ad L φ N0 Q) args s 0 0 (AA N0)) (F0 m 43 ls [.int (iv y0)]) := by
  have hF := X.2.2.2.2.2.2.2.2.1
  unfold wp_X3_catches_43 at hw
  refine lv_istore (lv' := [(5, .int (iv y0)), (0, .ref (ad 3 0)), (2, .int (iv x2)), (3, .int (iv x3)), (4, .int (iv x4))]) X.1 X.2.1 dX3_catches_43 hl (by decide) rfl (fun ls hl => ?_)
  refine lv_aload_n X.1 X.2.1 dX3_catches_45 rfl (lv_at hl 1 rfl) ?_
  refine r_getR (ci := 3) X inw_3 h (hF.1 3 rfl).1 rfl rfl 1 (by decide) kw_189 rfl ((hF.1 3 rfl).2 1) dX3_catches_46 ?_
  refine lv_iload_n X.1 X.2.1 dX3_catches_49 rfl (lv_at hl 2 rfl) ?_
  obtain ⟨g_1, g_2, hw⟩ := hw
  refine r_iald (n := 64) X h (hF.1 29 rfl).1 rfl (by decide) g_1 g_2 dX3_catches_50 ?_
  refine lv_iload X.1 X.2.1 dX3_catches_51 (lv_at hl 4 rfl) ?_
  refine j_bipush X dX3_catches_53 (by decide) ?_
  obtain ⟨g_3, hw⟩ := hw
  refine j_idiv X g_3 ⟨by decide, by decide⟩ (by decide) (by decide) dX3_catches_55 ?_
  refine j_iadd X dX3_catches_56 ?_
  refine lv_iload_n X.1 X.2.1 dX3_catches_57 rfl (lv_at hl 3 rfl) ?_
  refine j_iadd X dX3_catches_58 ?_
  refine lv_iload X.1 X.2.1 dX3_catches_59 (lv_at hl 0 rfl) ?_
  refine j_iadd X dX3_catches_61 ?_
  refine j_bipush X dX3_catches_62 (by decide) ?_
  obtain ⟨g_4, hwt, hwf⟩ := hw
  refine j_cmp_lt (tgt := 71) X g_4 ⟨by decide, by decide⟩ dX3_catches_64 (by decide) (fun c_5 => ?_) (fun c_5 => ?_)
  · have hw := hwt c_5
    refine j_iconst X dX3_catches_71 ?_
    exact k_ir X rfl h hw dX3_catches_72
  · have hw := hwf c_5
    refine j_iconst X dX3_catches_67 ?_
    refine lv_goto (tgt := 72) X.1 X.2.1 dX3_catches_68 (by decide) ?_
    exact k_ir X rfl h hw dX3_catches_72
set_option maxRecDepth 100000 in
set_option maxHeartbeats 4000000 in
theorem lb_X3_catches_23 (X : Cx p s m meth c args cX3_catches 6 (some .boolean) RX3 D ct L φ N0) (σ : St) (x1 : Int) (x2 : Int) (x3 : Int) (x4 : Int) (H : Heap) (locs : List Loc) (ls : Array Slot) (hw : wp_X3_catches_23 Q σ x1 x2 x3 x4) (h : Hs D ct ad L φ N0 s.heap σ H locs) (hl : lv_has ls 6 [(0, .ref (ad 3 0)), (1, .int (iv x1)), (2, .int (iv x2)), (3, .int (iv x3)), (4, .int (iv x4))]) : W p l e ({ frames := 1, cells := 0, slots := 0, locals := 23 } : Room) s m args below meth c H locs 0 0 (MQ below (Qi D ct ad L φ N0 Q) args s 0 0 (AA N0)) (F0 m 23 ls []) := by
  have hF := X.2.2.2.2.2.2.2.2.1
  unfold wp_X3_catches_23 at hw
  refine lv_aload_n X.1 X.2.1 dX3_catches_23 rfl (lv_at hl 0 rfl) ?_
  refine r_getR (ci := 3) X inw_3 h (hF.1 3 rfl).1 rfl rfl 0 (by decide) kw_185 rfl ((hF.1 3 rfl).2 0) dX3_catches_24 ?_
  refine lv_iload_n X.1 X.2.1 dX3_catches_27 rfl (lv_at hl 2 rfl) ?_
  obtain ⟨g_6, g_7, hw⟩ := hw
  refine r_iald (n := 64) X h (hF.1 28 rfl).1 rfl (by decide) g_6 g_7 dX3_catches_28 ?_
  refine lv_aload_n X.1 X.2.1 dX3_catches_29 rfl (lv_at hl 0 rfl) ?_
  refine r_getR (ci := 3) X inw_3 h (hF.1 3 rfl).1 rfl rfl 0 (by decide) kw_185 rfl ((hF.1 3 rfl).2 0) dX3_catches_30 ?_
  refine lv_iload_n X.1 X.2.1 dX3_catches_33 rfl (lv_at hl 1 rfl) ?_
  obtain ⟨g_8, g_9, hw⟩ := hw
  refine r_iald (n := 64) X h (hF.1 28 rfl).1 rfl (by decide) g_8 g_9 dX3_catches_34 ?_
  obtain ⟨g_10, g_11, hwt, hwf⟩ := hw
  refine j_cmp_le (tgt := 42) X g_10 g_11 dX3_catches_35 (by decide) (fun c_12 => ?_) (fun c_12 => ?_)
  · have hw := hwt c_12
    refine j_iconst X dX3_catches_42 ?_
    exact lb_X3_catches_43 X σ x2 x3 x4 0 _ _ _ hw h (lv_sub hl [0, 2, 3, 4] rfl)
  · have hw := hwf c_12
    refine j_iconst X dX3_catches_38 ?_
    refine lv_goto (tgt := 43) X.1 X.2.1 dX3_catches_39 (by decide) ?_
    exact lb_X3_catches_43 X σ x2 x3 x4 4 _ _ _ hw h (lv_sub hl [0, 2, 3, 4] rfl)
theorem pd_X3_catches : yX3_catches.cls ≠ "java/lang/invoke/MethodHandle" ∧ yX3_catches.cls ≠ "java/lang/invoke/VarHandle" ∧ (parseMethodDescriptor yX3_catches.desc).map (fun d => d.parameters.length) = some 3 := by decide +kernel
set_option maxRecDepth 100000 in
set_option maxHeartbeats 4000000 in
theorem c_X3_catches (l : Launch) (D : va_G) (ct : Nat → ClassId) (ad : Nat → Nat → Nat) (L : List (Nat × Nat)) (φ : Nat → Nat → Nat → Bool) (N0 : Nat) (σ : St) (x1 : Int) (x2 : Int) (x3 : Int) (Q : Int → St → Prop) (hw : wp_X3_catches σ x1 x2 x3 Q) : Met l yX3_catches (.code yX3_catches cX3_catches 6 (some .boolean) :: gw) ({ frames := 1, cells := 0, slots := 0, locals := 23 } : Room) (Pm D ct ad L φ N0 σ [.ref (ad 3 0), .int (iv x1), .int (iv x2), .int (iv x3)]) (Qi D ct ad L φ N0 Q) 0 0 (AA N0) := by
  refine m_of (by decide) (fun p e s m below meth c X hnm h => ?_)
  have hF := X.2.2.2.2.2.2.2.2.1
  have hl := lv_entry ([.ref (ad 3 0), .int (iv x1), .int (iv x2), .int (iv x3)]) (n := 6) (Nat.le_of_ble_eq_true rfl)
  rw [lg_entry_eq]
  generalize (lg_sl ([.ref (ad 3 0), .int (iv x1), .int (iv x2), .int (iv x3)]) ++ List.replicate (6 - (lg_sl ([.ref (ad 3 0), .int (iv x1), .int (iv x2), .int (iv x3)])).length) Slot.unset).toArray = ls at hl ⊢
  have hl : lv_has ls 6 [(0, .ref (ad 3 0)), (1, .int (iv x1)), (2, .int (iv x2)), (3, .int (iv x3))] := hl
  have h : Hs D ct ad L φ N0 s.heap σ s.heap [] := h
  unfold wp_X3_catches at hw
  refine lv_aload_n X.1 X.2.1 dX3_catches_0 rfl (lv_at hl 0 rfl) ?_
  refine lv_iload_n X.1 X.2.1 dX3_catches_1 rfl (lv_at hl 2 rfl) ?_
  refine k_i h (r_V (C := RX3) (ci := 3) (As := [.int (iv x2)]) (rest := []) X h (c_X3_stemsIn l D ct ad L φ N0 σ x2 _ hw) rfl rfl ⟨Nat.le_of_ble_eq_true rfl, Nat.le_of_ble_eq_true rfl⟩ kw_1323 kw_592 kw_593 kw_122 kw_594 ⟨rfl, pd_X3_stemsIn⟩ (hF.1 3 rfl).1 rfl rfl rfl hl.1 rfl (Nat.le_of_ble_eq_true rfl) ⟨Nat.le_of_ble_eq_true rfl, Nat.le_of_ble_eq_true rfl⟩ dX3_catches_2) (fun r_14 σ_13 H locs hw h => ?_)
  refine lv_istore (lv' := [(4, .int (iv r_14)), (0, .ref (ad 3 0)), (1, .int (iv x1)), (2, .int (iv x2)), (3, .int (iv x3))]) X.1 X.2.1 dX3_catches_5 hl (by decide) rfl (fun ls hl => ?_)
  refine lv_iload X.1 X.2.1 dX3_catches_7 (lv_at hl 0 rfl) ?_
  obtain ⟨g_15, hwt, hwf⟩ := hw
  refine j_if_ne (tgt := 23) X g_15 dX3_catches_9 (by decide) (fun c_20 => ?_) (fun c_20 => ?_)
  · have hw := hwt c_20
    exact lb_X3_catches_23 X σ_13 x1 x2 x3 r_14 _ _ _ hw h (lv_sub hl [1, 2, 3, 4, 0] rfl)
  · have hw := hwf c_20
    refine lv_aload_n X.1 X.2.1 dX3_catches_12 rfl (lv_at hl 1 rfl) ?_
    refine r_getR (ci := 3) X inw_3 h (hF.1 3 rfl).1 rfl rfl 1 (by decide) kw_189 rfl ((hF.1 3 rfl).2 1) dX3_catches_13 ?_
    refine lv_iload_n X.1 X.2.1 dX3_catches_16 rfl (lv_at hl 3 rfl) ?_
    obtain ⟨g_16, g_17, hw⟩ := hw
    refine r_iald (n := 64) X h (hF.1 29 rfl).1 rfl (by decide) g_16 g_17 dX3_catches_17 ?_
    obtain ⟨g_18, hwt, hwf⟩ := hw
    refine j_if_ne (tgt := 23) X g_18 dX3_catches_18 (by decide) (fun c_19 => ?_) (fun c_19 => ?_)
    · have hw := hwt c_19
      exact lb_X3_catches_23 X σ_13 x1 x2 x3 r_14 _ _ _ hw h (lv_sub hl [1, 2, 3, 4, 0] rfl)
    · have hw := hwf c_19
      refine j_iconst X dX3_catches_21 ?_
      exact k_ir X rfl h hw dX3_catches_22
end
section
variable {p : Program} {l : Launch} {e : Env} {s : State} {m : MethodId} {args : Array Value} {below : List Frame} {meth : Method} {c : Code} {D : va_G} {ct : Nat → ClassId} {ad : Nat → Nat → Nat} {L : List (Nat × Nat)} {φ : Nat → Nat → Nat → Bool} {N0 : Nat}
variable {Q : Int → St → Prop}
set_option maxRecDepth 100000 in
set_option maxHeartbeats 4000000 in
theorem lb_X3_kindle_68 (X : Cx p s m meth c args cX3_kindle 8 (some .int) RX3 D ct L φ N0) {K6 : St → Int → Int → Int → Int → Int → Int → Prop} (hK6 : ∀ (σ : St) (x1 : Int) (x2 : Int) (x3 : Int) (x4 : Int) (x5 : Int) (x6 : Int) (H : Heap) (locs : List Loc) (ls : Array Slot), K6 σ x1 x2 x3 x4 x5 x6 → Hs D ct ad L φ N0 s.heap σ H locs → lv_has ls 8 [(0, .ref (ad 3 0)), (1, .int (iv x1)), (2, .int (iv x2)), (3, .int (iv x3)), (4, .int (iv x4)), (5, .int (iv x5)), (6, .int (iv x6))] → W p l e ({ frames := 2, cells := 0, slots := 0, locals := 48 } : Room) s m args below meth c H locs 0 0 (MQ below (Qi D ct ad L φ N0 Q) args s 0 0 (AA N0)) (F0 m 6 ls [])) (σ : St) (x1 : Int) (x2 : Int) (x3 : Int) (x4 : Int) (x5 : Int) (x6 : Int) (H : Heap) (locs : List Loc) (ls : Array Slot) (hw : wp_X3_kindle_68 K6 Q σ x1 x2 x3 x4 x5 x6) (h : Hs D ct ad L φ N0 s.heap σ H locs) (hl : lv_has ls 8 [(0, .ref (ad 3 0)), (1, .int (iv x1)), (2, .int (iv x2)), (3, .int (iv x3)), (4, .int (iv x4)), (5, .int (iv x5)), (6, .int (iv x6))]) : W p l e ({ frames := 2, cells := 0, slots := 0, locals := 48 } : Room) s m args below meth c H locs 0 0 (MQ below (Qi D ct ad L φ N0 Q) args s 0 0 (AA N0)) (F0 m 68 ls []) := by
  have hF := X.2.2.2.2.2.2.2.2.1
  unfold wp_X3_kindle_68 at hw
  refine j_iinc (kk9 := 6) (lv' := [(6, .int (iv (x6 + 1))), (0, .ref (ad 3 0)), (1, .int (iv x1)), (2, .int (iv x2)), (3, .int (iv x3)), (4, .int (iv x4)), (5, .int (iv x5))]) X dX3_kindle_68 hl rfl (by decide) rfl (fun ls hl => ?_)
  refine lv_goto (tgt := 6) X.1 X.2.1 dX3_kindle_71 (by decide) ?_
  exact hK6 σ x1 x2 x3 x4 x5 (x6 + 1) _ _ _ hw h (lv_sub hl [1, 2, 3, 4, 5, 6, 0] rfl)
set_option maxRecDepth 100000 in
set_option maxHeartbeats 4000000 in
theorem lb_X3_kindle_6 (X : Cx p s m meth c args cX3_kindle 8 (some .int) RX3 D ct L φ N0) : ∀ (n : Nat) (σ : St) (x1 : Int) (x2 : Int) (x3 : Int) (x4 : Int) (x5 : Int) (x6 : Int) (H : Heap) (locs : List Loc) (ls : Array Slot), wp_X3_kindle_6 Q n σ x1 x2 x3 x4 x5 x6 → Hs D ct ad L φ N0 s.heap σ H locs → lv_has ls 8 [(0, .ref (ad 3 0)), (1, .int (iv x1)), (2, .int (iv x2)), (3, .int (iv x3)), (4, .int (iv x4)), (5, .int (iv x5)), (6, .int (iv x6))] → W p l e ({ frames := 2, cells := 0, slots := 0, locals := 48 } : Room) s m args below meth c H locs 0 0 (MQ below (Qi D ct ad L φ N0 Q) args s 0 0 (AA N0)) (F0 m 6 ls []) := by
  have hF := X.2.2.2.2.2.2.2.2.1
  intro n
  induction n with
  | zero => intro σ x1 x2 x3 x4 x5 x6 H locs ls hw; exact hw.elim
  | succ n ih =>
    intro σ x1 x2 x3 x4 x5 x6 H locs ls hw h hl
    unfold wp_X3_kindle_6 at hw
    refine lv_iload X.1 X.2.1 dX3_kindle_6 (lv_at hl 6 rfl) ?_
    refine j_iconst X dX3_kindle_8 ?_
    obtain ⟨g_1, hwt, hwf⟩ := hw
    refine j_cmp_ge (tgt := 74) X g_1 ⟨by decide, by decide⟩ dX3_kindle_9 (by decide) (fun c_19 => ?_) (fun c_19 => ?_)
    · have hw := hwt c_19
      refine lv_iload X.1 X.2.1 dX3_kindle_74 (lv_at hl 5 rfl) ?_
      exact k_ir X rfl h hw dX3_kindle_76
    · have hw := hwf c_19
      refine lv_iload_n X.1 X.2.1 dX3_kindle_12 rfl (lv_at hl 1 rfl) ?_
      refine lv_iload X.1 X.2.1 dX3_kindle_13 (lv_at hl 6 rfl) ?_
      refine k_i h (r_S (As := [.int (iv x1), .int (iv x6)]) (rest := []) X h (c_X3_beside l D ct ad L φ N0 σ x1 x6 _ hw) rfl rfl ⟨Nat.le_of_ble_eq_true rfl, Nat.le_of_ble_eq_true rfl⟩ kw_1313 kw_1314 kw_122 kw_1315 pd_X3_beside rfl hl.1 rfl (Nat.le_of_ble_eq_true rfl) ⟨Nat.le_of_ble_eq_true rfl, Nat.le_of_ble_eq_true rfl⟩ dX3_kindle_15) (fun r_3 σ_2 H locs hw h => ?_)
      refine lv_istore (lv' := [(7, .int (iv r_3)), (0, .ref (ad 3 0)), (1, .int (iv x1)), (2, .int (iv x2)), (3, .int (iv x3)), (4, .int (iv x4)), (5, .int (iv x5)), (6, .int (iv x6))]) X.1 X.2.1 dX3_kindle_18 hl (by decide) rfl (fun ls hl => ?_)
      refine lv_iload X.1 X.2.1 dX3_kindle_20 (lv_at hl 0 rfl) ?_
      refine j_iconst X dX3_kindle_22 ?_
      obtain ⟨g_4, hwt, hwf⟩ := hw
      refine j_cmp_eq (tgt := 68) X g_4 ⟨by decide, by decide⟩ dX3_kindle_23 (by decide) (fun c_18 => ?_) (fun c_18 => ?_)
      · have hw := hwt c_18
        exact lb_X3_kindle_68 X ih σ_2 x1 x2 x3 x4 x5 x6 _ _ _ hw h (lv_sub hl [1, 2, 3, 4, 5, 6, 7] rfl)
      · have hw := hwf c_18
        refine lv_aload_n X.1 X.2.1 dX3_kindle_26 rfl (lv_at hl 1 rfl) ?_
        refine r_getR (ci := 3) X inw_3 h (hF.1 3 rfl).1 rfl rfl 7 (by decide) kw_202 rfl ((hF.1 3 rfl).2 7) dX3_kindle_27 ?_
        refine lv_iload X.1 X.2.1 dX3_kindle_30 (lv_at hl 0 rfl) ?_
        obtain ⟨g_5, g_6, hw⟩ := hw
        refine r_iald (n := 64) X h (hF.1 34 rfl).1 rfl (by decide) g_5 g_6 dX3_kindle_32 ?_
        obtain ⟨g_7, hwt, hwf⟩ := hw
        refine j_if_ne (tgt := 68) X g_7 dX3_kindle_33 (by decide) (fun c_17 => ?_) (fun c_17 => ?_)
        · have hw := hwt c_17
          exact lb_X3_kindle_68 X ih σ_2 x1 x2 x3 x4 x5 x6 _ _ _ hw h (lv_sub hl [1, 2, 3, 4, 5, 6, 7] rfl)
        · have hw := hwf c_17
          refine lv_aload_n X.1 X.2.1 dX3_kindle_36 rfl (lv_at hl 1 rfl) ?_
          refine lv_iload_n X.1 X.2.1 dX3_kindle_37 rfl (lv_at hl 2 rfl) ?_
          refine lv_iload X.1 X.2.1 dX3_kindle_38 (lv_at hl 0 rfl) ?_
          refine j_iconst X dX3_kindle_40 ?_
          refine lv_iload X.1 X.2.1 dX3_kindle_41 (lv_at hl 5 rfl) ?_
          refine j_imul X dX3_kindle_43 ?_
          refine lv_iload X.1 X.2.1 dX3_kindle_44 (lv_at hl 7 rfl) ?_
          refine lv_iload_n X.1 X.2.1 dX3_kindle_46 rfl (lv_at hl 3 rfl) ?_
          refine k_i h (r_S (As := [.int (iv x6), .int (iv x2)]) (rest := [.int (iv (5 * x4)), .int (iv r_3), .int (iv x1), .ref (ad 3 0)]) X h (c_X3_windAid l D ct ad L φ N0 σ_2 x6 x2 _ hw) rfl rfl ⟨Nat.le_of_ble_eq_true rfl, Nat.le_of_ble_eq_true rfl⟩ kw_1316 kw_1317 kw_122 kw_1318 pd_X3_windAid rfl hl.1 rfl (Nat.le_of_ble_eq_true rfl) ⟨Nat.le_of_ble_eq_true rfl, Nat.le_of_ble_eq_true rfl⟩ dX3_kindle_47) (fun r_9 σ_8 H locs hw h => ?_)
          refine j_iadd X dX3_kindle_50 ?_
          refine k_i h (r_V (C := RX3) (ci := 3) (As := [.int (iv x1), .int (iv r_3), .int (iv ((5 * x4) + r_9))]) (rest := []) X h (c_X3_catches l D ct ad L φ N0 σ_8 x1 r_3 ((5 * x4) + r_9) _ hw) rfl rfl ⟨Nat.le_of_ble_eq_true rfl, Nat.le_of_ble_eq_true rfl⟩ kw_1319 kw_1321 kw_46 kw_122 kw_1322 ⟨rfl, pd_X3_catches⟩ (hF.1 3 rfl).1 rfl rfl rfl hl.1 rfl (Nat.le_of_ble_eq_true rfl) ⟨Nat.le_of_ble_eq_true rfl, Nat.le_of_ble_eq_true rfl⟩ dX3_kindle_51) (fun r_11 σ_10 H locs hw h => ?_)
          obtain ⟨g_12, hwt, hwf⟩ := hw
          refine j_if_eq (tgt := 68) X g_12 dX3_kindle_54 (by decide) (fun c_16 => ?_) (fun c_16 => ?_)
          · have hw := hwt c_16
            exact lb_X3_kindle_68 X ih σ_10 x1 x2 x3 x4 x5 x6 _ _ _ hw h (lv_sub hl [1, 2, 3, 4, 5, 6, 7] rfl)
          · have hw := hwf c_16
            refine lv_aload_n X.1 X.2.1 dX3_kindle_57 rfl (lv_at hl 1 rfl) ?_
            refine r_getR (ci := 3) X inw_3 h (hF.1 3 rfl).1 rfl rfl 7 (by decide) kw_202 rfl ((hF.1 3 rfl).2 7) dX3_kindle_58 ?_
            refine lv_iload X.1 X.2.1 dX3_kindle_61 (lv_at hl 0 rfl) ?_
            refine lv_iload_n X.1 X.2.1 dX3_kindle_63 rfl (lv_at hl 4 rfl) ?_
            obtain ⟨g_13, g_14, hw⟩ := hw
            refine r_iast (n := 64) X h (hF.1 34 rfl).1 (fun _ => rfl) (by decide) g_13 g_14 rfl dX3_kindle_64 (fun H locs h => ?_)
            obtain ⟨σ_15, eσ_15⟩ : ∃ z : St, z = st σ_10 34 0 (Int.toNat r_3) x3 := ⟨_, rfl⟩
            rw [← eσ_15] at h
            have hw := hw σ_15 eσ_15
            refine j_iinc (kk9 := 6) (lv' := [(5, .int (iv (x5 + 1))), (7, .int (iv r_3)), (0, .ref (ad 3 0)), (1, .int (iv x1)), (2, .int (iv x2)), (3, .int (iv x3)), (4, .int (iv x4)), (6, .int (iv x6))]) X dX3_kindle_65 hl rfl (by decide) rfl (fun ls hl => ?_)
            exact lb_X3_kindle_68 X ih σ_15 x1 x2 x3 x4 (x5 + 1) x6 _ _ _ hw h (lv_sub hl [2, 3, 4, 5, 6, 0, 7] rfl)
theorem pd_X3_kindle : yX3_kindle.cls ≠ "java/lang/invoke/MethodHandle" ∧ yX3_kindle.cls ≠ "java/lang/invoke/VarHandle" ∧ (parseMethodDescriptor yX3_kindle.desc).map (fun d => d.parameters.length) = some 4 := by decide +kernel
set_option maxRecDepth 100000 in
set_option maxHeartbeats 4000000 in
theorem c_X3_kindle (l : Launch) (D : va_G) (ct : Nat → ClassId) (ad : Nat → Nat → Nat) (L : List (Nat × Nat)) (φ : Nat → Nat → Nat → Bool) (N0 : Nat) (σ : St) (x1 : Int) (x2 : Int) (x3 : Int) (x4 : Int) (Q : Int → St → Prop) (hw : wp_X3_kindle σ x1 x2 x3 x4 Q) : Met l yX3_kindle (.code yX3_kindle cX3_kindle 8 (some .int) :: gw) ({ frames := 2, cells := 0, slots := 0, locals := 48 } : Room) (Pm D ct ad L φ N0 σ [.ref (ad 3 0), .int (iv x1), .int (iv x2), .int (iv x3), .int (iv x4)]) (Qi D ct ad L φ N0 Q) 0 0 (AA N0) := by
  refine m_of (by decide) (fun p e s m below meth c X hnm h => ?_)
  have hF := X.2.2.2.2.2.2.2.2.1
  have hl := lv_entry ([.ref (ad 3 0), .int (iv x1), .int (iv x2), .int (iv x3), .int (iv x4)]) (n := 8) (Nat.le_of_ble_eq_true rfl)
  rw [lg_entry_eq]
  generalize (lg_sl ([.ref (ad 3 0), .int (iv x1), .int (iv x2), .int (iv x3), .int (iv x4)]) ++ List.replicate (8 - (lg_sl ([.ref (ad 3 0), .int (iv x1), .int (iv x2), .int (iv x3), .int (iv x4)])).length) Slot.unset).toArray = ls at hl ⊢
  have hl : lv_has ls 8 [(0, .ref (ad 3 0)), (1, .int (iv x1)), (2, .int (iv x2)), (3, .int (iv x3)), (4, .int (iv x4))] := hl
  have h : Hs D ct ad L φ N0 s.heap σ s.heap [] := h
  unfold wp_X3_kindle at hw
  refine j_iconst X dX3_kindle_0 ?_
  refine lv_istore (lv' := [(5, .int (iv 0)), (0, .ref (ad 3 0)), (1, .int (iv x1)), (2, .int (iv x2)), (3, .int (iv x3)), (4, .int (iv x4))]) X.1 X.2.1 dX3_kindle_1 hl (by decide) rfl (fun ls hl => ?_)
  refine j_iconst X dX3_kindle_3 ?_
  refine lv_istore (lv' := [(6, .int (iv 0)), (5, .int (iv 0)), (0, .ref (ad 3 0)), (1, .int (iv x1)), (2, .int (iv x2)), (3, .int (iv x3)), (4, .int (iv x4))]) X.1 X.2.1 dX3_kindle_4 hl (by decide) rfl (fun ls hl => ?_)
  exact hw.elim (fun n6 hw => lb_X3_kindle_6 X n6 σ x1 x2 x3 x4 0 0 _ _ _ hw h (lv_sub hl [2, 3, 4, 5, 6, 1, 0] rfl))
end
section
variable {p : Program} {l : Launch} {e : Env} {s : State} {m : MethodId} {args : Array Value} {below : List Frame} {meth : Method} {c : Code} {D : va_G} {ct : Nat → ClassId} {ad : Nat → Nat → Nat} {L : List (Nat × Nat)} {φ : Nat → Nat → Nat → Bool} {N0 : Nat}
variable {Q : Int → St → Prop}
set_option maxRecDepth 100000 in
set_option maxHeartbeats 4000000 in
theorem lb_X3_spreadFire_89 (X : Cx p s m meth c args cX3_spreadFire 8 (some .int) RX3 D ct L φ N0) {K37 : St → Int → Int → Int → Int → Int → Prop} (hK37 : ∀ (σ : St) (x2 : Int) (x3 : Int) (x4 : Int) (x5 : Int) (x6 : Int) (H : Heap) (locs : List Loc) (ls : Array Slot), K37 σ x2 x3 x4 x5 x6 → Hs D ct ad L φ N0 s.heap σ H locs → lv_has ls 8 [(0, .ref (ad 3 0)), (2, .int (iv x2)), (3, .int (iv x3)), (4, .int (iv x4)), (5, .int (iv x5)), (6, .int (iv x6))] → W p l e ({ frames := 3, cells := 0, slots := 0, locals := 75 } : Room) s m args below meth c H locs 0 0 (MQ below (Qi D ct ad L φ N0 Q) args s 0 0 (AA N0)) (F0 m 37 ls [])) (σ : St) (x2 : Int) (x3 : Int) (x4 : Int) (x5 : Int) (x6 : Int) (H : Heap) (locs : List Loc) (ls : Array Slot) (hw : wp_X3_spreadFire_89 K37 Q σ x2 x3 x4 x5 x6) (h : Hs D ct ad L φ N0 s.heap σ H locs) (hl : lv_has ls 8 [(0, .ref (ad 3 0)), (2, .int (iv x2)), (3, .int (iv x3)), (4, .int (iv x4)), (5, .int (iv x5)), (6, .int (iv x6))]) : W p l e ({ frames := 3, cells := 0, slots := 0, locals := 75 } : Room) s m args below meth c H locs 0 0 (MQ below (Qi D ct ad L φ N0 Q) args s 0 0 (AA N0)) (F0 m 89 ls []) := by
  have hF := X.2.2.2.2.2.2.2.2.1
  unfold wp_X3_spreadFire_89 at hw
  refine j_iinc (kk9 := 5) (lv' := [(6, .int (iv (x6 + 1))), (0, .ref (ad 3 0)), (2, .int (iv x2)), (3, .int (iv x3)), (4, .int (iv x4)), (5, .int (iv x5))]) X dX3_spreadFire_89 hl rfl (by decide) rfl (fun ls hl => ?_)
  refine lv_goto (tgt := 37) X.1 X.2.1 dX3_spreadFire_92 (by decide) ?_
  exact hK37 σ x2 x3 x4 x5 (x6 + 1) _ _ _ hw h (lv_sub hl [1, 2, 3, 4, 5, 0] rfl)
set_option maxRecDepth 100000 in
set_option maxHeartbeats 4000000 in
theorem lb_X3_spreadFire_83 (X : Cx p s m meth c args cX3_spreadFire 8 (some .int) RX3 D ct L φ N0) {K46 : St → Int → Int → Int → Int → Int → Int → Prop} {K89 : St → Int → Int → Int → Int → Int → Prop} (hK46 : ∀ (σ : St) (x2 : Int) (x3 : Int) (x4 : Int) (x5 : Int) (x6 : Int) (x7 : Int) (H : Heap) (locs : List Loc) (ls : Array Slot), K46 σ x2 x3 x4 x5 x6 x7 → Hs D ct ad L φ N0 s.heap σ H locs → lv_has ls 8 [(0, .ref (ad 3 0)), (2, .int (iv x2)), (3, .int (iv x3)), (4, .int (iv x4)), (5, .int (iv x5)), (6, .int (iv x6)), (7, .int (iv x7))] → W p l e ({ frames := 3, cells := 0, slots := 0, locals := 75 } : Room) s m args below meth c H locs 0 0 (MQ below (Qi D ct ad L φ N0 Q) args s 0 0 (AA N0)) (F0 m 46 ls [])) (hK89 : ∀ (σ : St) (x2 : Int) (x3 : Int) (x4 : Int) (x5 : Int) (x6 : Int) (H : Heap) (locs : List Loc) (ls : Array Slot), K89 σ x2 x3 x4 x5 x6 → Hs D ct ad L φ N0 s.heap σ H locs → lv_has ls 8 [(0, .ref (ad 3 0)), (2, .int (iv x2)), (3, .int (iv x3)), (4, .int (iv x4)), (5, .int (iv x5)), (6, .int (iv x6))] → W p l e ({ frames := 3, cells := 0, slots := 0, locals := 75 } : Room) s m args below meth c H locs 0 0 (MQ below (Qi D ct ad L φ N0 Q) args s 0 0 (AA N0)) (F0 m 89 ls [])) (σ : St) (x2 : Int) (x3 : Int) (x4 : Int) (x5 : Int) (x6 : Int) (x7 : Int) (H : Heap) (locs : List Loc) (ls : Array Slot) (hw : wp_X3_spreadFire_83 K46 K89 Q σ x2 x3 x4 x5 x6 x7) (h : Hs D ct ad L φ N0 s.heap σ H locs) (hl : lv_has ls 8 [(0, .ref (ad 3 0)), (2, .int (iv x2)), (3, .int (iv x3)), (4, .int (iv x4)), (5, .int (iv x5)), (6, .int (iv x6)), (7, .int (iv x7))]) : W p l e ({ frames := 3, cells := 0, slots := 0, locals := 75 } : Room) s m args below meth c H locs 0 0 (MQ below (Qi D ct ad L φ N0 Q) args s 0 0 (AA N0)) (F0 m 83 ls []) := by
  have hF := X.2.2.2.2.2.2.2.2.1
  unfold wp_X3_spreadFire_83 at hw
  refine j_iinc (kk9 := 6) (lv' := [(7, .int (iv (x7 + 1))), (0, .ref (ad 3 0)), (2, .int (iv x2)), (3, .int (iv x3)), (4, .int (iv x4)), (5, .int (iv x5)), (6, .int (iv x6))]) X dX3_spreadFire_83 hl rfl (by decide) rfl (fun ls hl => ?_)
  refine lv_goto (tgt := 46) X.1 X.2.1 dX3_spreadFire_86 (by decide) ?_
  exact hK46 σ x2 x3 x4 x5 x6 (x7 + 1) _ _ _ hw h (lv_sub hl [1, 2, 3, 4, 5, 6, 0] rfl)
set_option maxRecDepth 100000 in
set_option maxHeartbeats 4000000 in
theorem lb_X3_spreadFire_46 (X : Cx p s m meth c args cX3_spreadFire 8 (some .int) RX3 D ct L φ N0) {K89 : St → Int → Int → Int → Int → Int → Prop} (hK89 : ∀ (σ : St) (x2 : Int) (x3 : Int) (x4 : Int) (x5 : Int) (x6 : Int) (H : Heap) (locs : List Loc) (ls : Array Slot), K89 σ x2 x3 x4 x5 x6 → Hs D ct ad L φ N0 s.heap σ H locs → lv_has ls 8 [(0, .ref (ad 3 0)), (2, .int (iv x2)), (3, .int (iv x3)), (4, .int (iv x4)), (5, .int (iv x5)), (6, .int (iv x6))] → W p l e ({ frames := 3, cells := 0, slots := 0, locals := 75 } : Room) s m args below meth c H locs 0 0 (MQ below (Qi D ct ad L φ N0 Q) args s 0 0 (AA N0)) (F0 m 89 ls [])) : ∀ (n : Nat) (σ : St) (x2 : Int) (x3 : Int) (x4 : Int) (x5 : Int) (x6 : Int) (x7 : Int) (H : Heap) (locs : List Loc) (ls : Array Slot), wp_X3_spreadFire_46 K89 Q n σ x2 x3 x4 x5 x6 x7 → Hs D ct ad L φ N0 s.heap σ H locs → lv_has ls 8 [(0, .ref (ad 3 0)), (2, .int (iv x2)), (3, .int (iv x3)), (4, .int (iv x4)), (5, .int (iv x5)), (6, .int (iv x6)), (7, .int (iv x7))] → W p l e ({ frames := 3, cells := 0, slots := 0, locals := 75 } : Room) s m args below meth c H locs 0 0 (MQ below (Qi D ct ad L φ N0 Q) args s 0 0 (AA N0)) (F0 m 46 ls []) := by
  have hF := X.2.2.2.2.2.2.2.2.1
  intro n
  induction n with
  | zero => intro σ x2 x3 x4 x5 x6 x7 H locs ls hw; exact hw.elim
  | succ n ih =>
    intro σ x2 x3 x4 x5 x6 x7 H locs ls hw h hl
    unfold wp_X3_spreadFire_46 at hw
    refine lv_iload X.1 X.2.1 dX3_spreadFire_46 (lv_at hl 6 rfl) ?_
    refine j_bipush X dX3_spreadFire_48 (by decide) ?_
    obtain ⟨g_1, hwt, hwf⟩ := hw
    refine j_cmp_ge (tgt := 89) X g_1 ⟨by decide, by decide⟩ dX3_spreadFire_50 (by decide) (fun c_10 => ?_) (fun c_10 => ?_)
    · have hw := hwt c_10
      exact hK89 σ x2 x3 x4 x5 x6 _ _ _ hw h (lv_sub hl [0, 1, 2, 3, 4, 5] rfl)
    · have hw := hwf c_10
      refine lv_aload_n X.1 X.2.1 dX3_spreadFire_53 rfl (lv_at hl 0 rfl) ?_
      refine r_getR (ci := 3) X inw_3 h (hF.1 3 rfl).1 rfl rfl 7 (by decide) kw_202 rfl ((hF.1 3 rfl).2 7) dX3_spreadFire_54 ?_
      refine lv_iload X.1 X.2.1 dX3_spreadFire_57 (lv_at hl 6 rfl) ?_
      obtain ⟨g_2, g_3, hw⟩ := hw
      refine r_iald (n := 64) X h (hF.1 34 rfl).1 rfl (by decide) g_2 g_3 dX3_spreadFire_59 ?_
      refine lv_iload X.1 X.2.1 dX3_spreadFire_60 (lv_at hl 5 rfl) ?_
      obtain ⟨g_4, g_5, hwt, hwf⟩ := hw
      refine j_cmp_ne (tgt := 83) X g_4 g_5 dX3_spreadFire_62 (by decide) (fun c_9 => ?_) (fun c_9 => ?_)
      · have hw := hwt c_9
        exact lb_X3_spreadFire_83 X ih hK89 σ x2 x3 x4 x5 x6 x7 _ _ _ hw h (lv_sub hl [0, 1, 2, 3, 4, 5, 6] rfl)
      · have hw := hwf c_9
        refine lv_iload X.1 X.2.1 dX3_spreadFire_65 (lv_at hl 4 rfl) ?_
        refine lv_aload_n X.1 X.2.1 dX3_spreadFire_67 rfl (lv_at hl 0 rfl) ?_
        refine lv_iload X.1 X.2.1 dX3_spreadFire_68 (lv_at hl 6 rfl) ?_
        refine lv_iload_n X.1 X.2.1 dX3_spreadFire_70 rfl (lv_at hl 1 rfl) ?_
        refine lv_iload X.1 X.2.1 dX3_spreadFire_71 (lv_at hl 5 rfl) ?_
        refine j_iconst X dX3_spreadFire_73 ?_
        refine j_iadd X dX3_spreadFire_74 ?_
        refine lv_iload X.1 X.2.1 dX3_spreadFire_75 (lv_at hl 3 rfl) ?_
        refine k_i h (r_V (C := RX3) (ci := 3) (As := [.int (iv x7), .int (iv x2), .int (iv (x6 + 1)), .int (iv x4)]) (rest := [.int (iv x5)]) X h (c_X3_kindle l D ct ad L φ N0 σ x7 x2 (x6 + 1) x4 _ hw) rfl rfl ⟨Nat.le_of_ble_eq_true rfl, Nat.le_of_ble_eq_true rfl⟩ kw_1309 kw_1311 kw_45 kw_122 kw_1312 ⟨rfl, pd_X3_kindle⟩ (hF.1 3 rfl).1 rfl rfl rfl hl.1 rfl (Nat.le_of_ble_eq_true rfl) ⟨Nat.le_of_ble_eq_true rfl, Nat.le_of_ble_eq_true rfl⟩ dX3_spreadFire_77) (fun r_7 σ_6 H locs hw h => ?_)
        refine j_iadd X dX3_spreadFire_80 ?_
        refine j_bind (fun v_8 ev_8 => ?_)
        have hw := hw v_8 ev_8
        refine lv_istore (lv' := [(5, .int (iv v_8)), (0, .ref (ad 3 0)), (2, .int (iv x2)), (3, .int (iv x3)), (4, .int (iv x4)), (6, .int (iv x6)), (7, .int (iv x7))]) X.1 X.2.1 dX3_spreadFire_81 hl (by decide) rfl (fun ls hl => ?_)
        exact lb_X3_spreadFire_83 X ih hK89 σ_6 x2 x3 x4 v_8 x6 x7 _ _ _ hw h (lv_sub hl [1, 2, 3, 4, 0, 5, 6] rfl)
set_option maxRecDepth 100000 in
set_option maxHeartbeats 4000000 in
theorem lb_X3_spreadFire_37 (X : Cx p s m meth c args cX3_spreadFire 8 (some .int) RX3 D ct L φ N0) : ∀ (n : Nat) (σ : St) (x2 : Int) (x3 : Int) (x4 : Int) (x5 : Int) (x6 : Int) (H : Heap) (locs : List Loc) (ls : Array Slot), wp_X3_spreadFire_37 Q n σ x2 x3 x4 x5 x6 → Hs D ct ad L φ N0 s.heap σ H locs → lv_has ls 8 [(0, .ref (ad 3 0)), (2, .int (iv x2)), (3, .int (iv x3)), (4, .int (iv x4)), (5, .int (iv x5)), (6, .int (iv x6))] → W p l e ({ frames := 3, cells := 0, slots := 0, locals := 75 } : Room) s m args below meth c H locs 0 0 (MQ below (Qi D ct ad L φ N0 Q) args s 0 0 (AA N0)) (F0 m 37 ls []) := by
  have hF := X.2.2.2.2.2.2.2.2.1
  intro n
  induction n with
  | zero => intro σ x2 x3 x4 x5 x6 H locs ls hw; exact hw.elim
  | succ n ih =>
    intro σ x2 x3 x4 x5 x6 H locs ls hw h hl
    unfold wp_X3_spreadFire_37 at hw
    refine lv_iload X.1 X.2.1 dX3_spreadFire_37 (lv_at hl 5 rfl) ?_
    refine lv_iload_n X.1 X.2.1 dX3_spreadFire_39 rfl (lv_at hl 2 rfl) ?_
    obtain ⟨g_11, g_12, hwt, hwf⟩ := hw
    refine j_cmp_gt (tgt := 95) X g_11 g_12 dX3_spreadFire_40 (by decide) (fun c_13 => ?_) (fun c_13 => ?_)
    · have hw := hwt c_13
      refine lv_iload X.1 X.2.1 dX3_spreadFire_95 (lv_at hl 4 rfl) ?_
      exact k_ir X rfl h hw dX3_spreadFire_97
    · have hw := hwf c_13
      refine j_iconst X dX3_spreadFire_43 ?_
      refine lv_istore (lv' := [(7, .int (iv 0)), (0, .ref (ad 3 0)), (2, .int (iv x2)), (3, .int (iv x3)), (4, .int (iv x4)), (5, .int (iv x5)), (6, .int (iv x6))]) X.1 X.2.1 dX3_spreadFire_44 hl (by decide) rfl (fun ls hl => ?_)
      exact hw.elim (fun n46 hw => lb_X3_spreadFire_46 X (lb_X3_spreadFire_89 X ih) n46 σ x2 x3 x4 x5 x6 0 _ _ _ hw h (lv_sub hl [1, 2, 3, 4, 5, 6, 0] rfl))
set_option maxRecDepth 100000 in
set_option maxHeartbeats 4000000 in
theorem lb_X3_spreadFire_24 (X : Cx p s m meth c args cX3_spreadFire 8 (some .int) RX3 D ct L φ N0) (σ : St) (x1 : Int) (x2 : Int) (x3 : Int) (x4 : Int) (H : Heap) (locs : List Loc) (ls : Array Slot) (hw : wp_X3_spreadFire_24 Q σ x1 x2 x3 x4) (h : Hs D ct ad L φ N0 s.heap σ H locs) (hl : lv_has ls 8 [(0, .ref (ad 3 0)), (1, .int (iv x1)), (2, .int (iv x2)), (3, .int (iv x3)), (4, .int (iv x4))]) : W p l e ({ frames := 3, cells := 0, slots := 0, locals := 75 } : Room) s m args below meth c H locs 0 0 (MQ below (Qi D ct ad L φ N0 Q) args s 0 0 (AA N0)) (F0 m 24 ls []) := by
  have hF := X.2.2.2.2.2.2.2.2.1
  unfold wp_X3_spreadFire_24 at hw
  refine lv_aload_n X.1 X.2.1 dX3_spreadFire_24 rfl (lv_at hl 0 rfl) ?_
  refine r_getR (ci := 3) X inw_3 h (hF.1 3 rfl).1 rfl rfl 7 (by decide) kw_202 rfl ((hF.1 3 rfl).2 7) dX3_spreadFire_25 ?_
  refine lv_iload_n X.1 X.2.1 dX3_spreadFire_28 rfl (lv_at hl 1 rfl) ?_
  refine j_iconst X dX3_spreadFire_29 ?_
  obtain ⟨g_14, g_15, hw⟩ := hw
  refine r_iast (n := 64) X h (hF.1 34 rfl).1 (fun _ => rfl) (by decide) g_14 g_15 rfl dX3_spreadFire_30 (fun H locs h => ?_)
  obtain ⟨σ_16, eσ_16⟩ : ∃ z : St, z = st σ 34 0 (Int.toNat x1) 1 := ⟨_, rfl⟩
  rw [← eσ_16] at h
  have hw := hw σ_16 eσ_16
  refine j_iconst X dX3_spreadFire_31 ?_
  refine lv_istore (lv' := [(5, .int (iv 1)), (0, .ref (ad 3 0)), (1, .int (iv x1)), (2, .int (iv x2)), (3, .int (iv x3)), (4, .int (iv x4))]) X.1 X.2.1 dX3_spreadFire_32 hl (by decide) rfl (fun ls hl => ?_)
  refine j_iconst X dX3_spreadFire_34 ?_
  refine lv_istore (lv' := [(6, .int (iv 1)), (5, .int (iv 1)), (0, .ref (ad 3 0)), (1, .int (iv x1)), (2, .int (iv x2)), (3, .int (iv x3)), (4, .int (iv x4))]) X.1 X.2.1 dX3_spreadFire_35 hl (by decide) rfl (fun ls hl => ?_)
  exact hw.elim (fun n37 hw => lb_X3_spreadFire_37 X n37 σ_16 x2 x3 x4 1 1 _ _ _ hw h (lv_sub hl [2, 4, 5, 6, 1, 0] rfl))
set_option maxRecDepth 100000 in
set_option maxHeartbeats 4000000 in
theorem lb_X3_spreadFire_3 (X : Cx p s m meth c args cX3_spreadFire 8 (some .int) RX3 D ct L φ N0) {K24 : St → Int → Int → Int → Int → Prop} (hK24 : ∀ (σ : St) (x1 : Int) (x2 : Int) (x3 : Int) (x4 : Int) (H : Heap) (locs : List Loc) (ls : Array Slot), K24 σ x1 x2 x3 x4 → Hs D ct ad L φ N0 s.heap σ H locs → lv_has ls 8 [(0, .ref (ad 3 0)), (1, .int (iv x1)), (2, .int (iv x2)), (3, .int (iv x3)), (4, .int (iv x4))] → W p l e ({ frames := 3, cells := 0, slots := 0, locals := 75 } : Room) s m args below meth c H locs 0 0 (MQ below (Qi D ct ad L φ N0 Q) args s 0 0 (AA N0)) (F0 m 24 ls [])) : ∀ (n : Nat) (σ : St) (x1 : Int) (x2 : Int) (x3 : Int) (x4 : Int) (x5 : Int) (H : Heap) (locs : List Loc) (ls : Array Slot), wp_X3_spreadFire_3 K24 Q n σ x1 x2 x3 x4 x5 → Hs D ct ad L φ N0 s.heap σ H locs → lv_has ls 8 [(0, .ref (ad 3 0)), (1, .int (iv x1)), (2, .int (iv x2)), (3, .int (iv x3)), (4, .int (iv x4)), (5, .int (iv x5))] → W p l e ({ frames := 3, cells := 0, slots := 0, locals := 75 } : Room) s m args below meth c H locs 0 0 (MQ below (Qi D ct ad L φ N0 Q) args s 0 0 (AA N0)) (F0 m 3 ls []) := by
  have hF := X.2.2.2.2.2.2.2.2.1
  intro n
  induction n with
  | zero => intro σ x1 x2 x3 x4 x5 H locs ls hw; exact hw.elim
  | succ n ih =>
    intro σ x1 x2 x3 x4 x5 H locs ls hw h hl
    unfold wp_X3_spreadFire_3 at hw
    refine lv_iload X.1 X.2.1 dX3_spreadFire_3 (lv_at hl 5 rfl) ?_
    refine j_bipush X dX3_spreadFire_5 (by decide) ?_
    obtain ⟨g_17, hwt, hwf⟩ := hw
    refine j_cmp_ge (tgt := 24) X g_17 ⟨by decide, by decide⟩ dX3_spreadFire_7 (by decide) (fun c_21 => ?_) (fun c_21 => ?_)
    · have hw := hwt c_21
      exact hK24 σ x1 x2 x3 x4 _ _ _ hw h (lv_sub hl [0, 1, 2, 3, 4] rfl)
    · have hw := hwf c_21
      refine lv_aload_n X.1 X.2.1 dX3_spreadFire_10 rfl (lv_at hl 0 rfl) ?_
      refine r_getR (ci := 3) X inw_3 h (hF.1 3 rfl).1 rfl rfl 7 (by decide) kw_202 rfl ((hF.1 3 rfl).2 7) dX3_spreadFire_11 ?_
      refine lv_iload X.1 X.2.1 dX3_spreadFire_14 (lv_at hl 5 rfl) ?_
      refine j_iconst X dX3_spreadFire_16 ?_
      obtain ⟨g_18, g_19, hw⟩ := hw
      refine r_iast (n := 64) X h (hF.1 34 rfl).1 (fun _ => rfl) (by decide) g_18 g_19 rfl dX3_spreadFire_17 (fun H locs h => ?_)
      obtain ⟨σ_20, eσ_20⟩ : ∃ z : St, z = st σ 34 0 (Int.toNat x5) 0 := ⟨_, rfl⟩
      rw [← eσ_20] at h
      have hw := hw σ_20 eσ_20
      refine j_iinc (kk9 := 5) (lv' := [(5, .int (iv (x5 + 1))), (0, .ref (ad 3 0)), (1, .int (iv x1)), (2, .int (iv x2)), (3, .int (iv x3)), (4, .int (iv x4))]) X dX3_spreadFire_18 hl rfl (by decide) rfl (fun ls hl => ?_)
      refine lv_goto (tgt := 3) X.1 X.2.1 dX3_spreadFire_21 (by decide) ?_
      exact ih σ_20 x1 x2 x3 x4 (x5 + 1) _ _ _ hw h (lv_sub hl [1, 2, 3, 4, 5, 0] rfl)
theorem pd_X3_spreadFire : yX3_spreadFire.cls ≠ "java/lang/invoke/MethodHandle" ∧ yX3_spreadFire.cls ≠ "java/lang/invoke/VarHandle" ∧ (parseMethodDescriptor yX3_spreadFire.desc).map (fun d => d.parameters.length) = some 4 := by decide +kernel
set_option maxRecDepth 100000 in
set_option maxHeartbeats 4000000 in
theorem c_X3_spreadFire (l : Launch) (D : va_G) (ct : Nat → ClassId) (ad : Nat → Nat → Nat) (L : List (Nat × Nat)) (φ : Nat → Nat → Nat → Bool) (N0 : Nat) (σ : St) (x1 : Int) (x2 : Int) (x3 : Int) (x4 : Int) (Q : Int → St → Prop) (hw : wp_X3_spreadFire σ x1 x2 x3 x4 Q) : Met l yX3_spreadFire (.code yX3_spreadFire cX3_spreadFire 8 (some .int) :: gw) ({ frames := 3, cells := 0, slots := 0, locals := 75 } : Room) (Pm D ct ad L φ N0 σ [.ref (ad 3 0), .int (iv x1), .int (iv x2), .int (iv x3), .int (iv x4)]) (Qi D ct ad L φ N0 Q) 0 0 (AA N0) := by
  refine m_of (by decide) (fun p e s m below meth c X hnm h => ?_)
  have hF := X.2.2.2.2.2.2.2.2.1
  have hl := lv_entry ([.ref (ad 3 0), .int (iv x1), .int (iv x2), .int (iv x3), .int (iv x4)]) (n := 8) (Nat.le_of_ble_eq_true rfl)
  rw [lg_entry_eq]
  generalize (lg_sl ([.ref (ad 3 0), .int (iv x1), .int (iv x2), .int (iv x3), .int (iv x4)]) ++ List.replicate (8 - (lg_sl ([.ref (ad 3 0), .int (iv x1), .int (iv x2), .int (iv x3), .int (iv x4)])).length) Slot.unset).toArray = ls at hl ⊢
  have hl : lv_has ls 8 [(0, .ref (ad 3 0)), (1, .int (iv x1)), (2, .int (iv x2)), (3, .int (iv x3)), (4, .int (iv x4))] := hl
  have h : Hs D ct ad L φ N0 s.heap σ s.heap [] := h
  unfold wp_X3_spreadFire at hw
  refine j_iconst X dX3_spreadFire_0 ?_
  refine lv_istore (lv' := [(5, .int (iv 0)), (0, .ref (ad 3 0)), (1, .int (iv x1)), (2, .int (iv x2)), (3, .int (iv x3)), (4, .int (iv x4))]) X.1 X.2.1 dX3_spreadFire_1 hl (by decide) rfl (fun ls hl => ?_)
  exact hw.elim (fun n3 hw => lb_X3_spreadFire_3 X (lb_X3_spreadFire_24 X) n3 σ x1 x2 x3 x4 0 _ _ _ hw h (lv_sub hl [1, 2, 3, 4, 5, 0] rfl))
end
section
variable {p : Program} {l : Launch} {e : Env} {s : State} {m : MethodId} {args : Array Value} {below : List Frame} {meth : Method} {c : Code} {D : va_G} {ct : Nat → ClassId} {ad : Nat → Nat → Nat} {L : List (Nat × Nat)} {φ : Nat → Nat → Nat → Bool} {N0 : Nat}
variable {Q : St → Prop}
set_option maxRecDepth 100000 in
set_option maxHeartbeats 4000000 in
theorem lb_X3_clearCell_60 (X : Cx p s m meth c args cX3_clearCell 5 none RX3 D ct L φ N0) {K9 : St → Int → Int → Prop} (hK9 : ∀ (σ : St) (x1 : Int) (x2 : Int) (H : Heap) (locs : List Loc) (ls : Array Slot), K9 σ x1 x2 → Hs D ct ad L φ N0 s.heap σ H locs → lv_has ls 5 [(0, .ref (ad 3 0)), (1, .int (iv x1)), (2, .int (iv x2))] → W p l e ({ frames := 1, cells := 0, slots := 0, locals := 22 } : Room) s m args below meth c H locs 0 0 (MQ below (Qv D ct ad L φ N0 Q) args s 0 0 (AA N0)) (F0 m 9 ls [])) (σ : St) (x1 : Int) (x2 : Int) (H : Heap) (locs : List Loc) (ls : Array Slot) (hw : wp_X3_clearCell_60 K9 Q σ x1 x2) (h : Hs D ct ad L φ N0 s.heap σ H locs) (hl : lv_has ls 5 [(0, .ref (ad 3 0)), (1, .int (iv x1)), (2, .int (iv x2))]) : W p l e ({ frames := 1, cells := 0, slots := 0, locals := 22 } : Room) s m args below meth c H locs 0 0 (MQ below (Qv D ct ad L φ N0 Q) args s 0 0 (AA N0)) (F0 m 60 ls []) := by
  have hF := X.2.2.2.2.2.2.2.2.1
  unfold wp_X3_clearCell_60 at hw
  refine j_iinc (kk9 := 2) (lv' := [(2, .int (iv (x2 + 1))), (0, .ref (ad 3 0)), (1, .int (iv x1))]) X dX3_clearCell_60 hl rfl (by decide) rfl (fun ls hl => ?_)
  refine lv_goto (tgt := 9) X.1 X.2.1 dX3_clearCell_63 (by decide) ?_
  exact hK9 σ x1 (x2 + 1) _ _ _ hw h (lv_sub hl [1, 2, 0] rfl)
set_option maxRecDepth 100000 in
set_option maxHeartbeats 4000000 in
theorem lb_X3_clearCell_53 (X : Cx p s m meth c args cX3_clearCell 5 none RX3 D ct L φ N0) {K16 : St → Int → Int → Int → Prop} {K60 : St → Int → Int → Prop} (hK16 : ∀ (σ : St) (x1 : Int) (x2 : Int) (x3 : Int) (H : Heap) (locs : List Loc) (ls : Array Slot), K16 σ x1 x2 x3 → Hs D ct ad L φ N0 s.heap σ H locs → lv_has ls 5 [(0, .ref (ad 3 0)), (1, .int (iv x1)), (2, .int (iv x2)), (3, .int (iv x3))] → W p l e ({ frames := 1, cells := 0, slots := 0, locals := 22 } : Room) s m args below meth c H locs 0 0 (MQ below (Qv D ct ad L φ N0 Q) args s 0 0 (AA N0)) (F0 m 16 ls [])) (hK60 : ∀ (σ : St) (x1 : Int) (x2 : Int) (H : Heap) (locs : List Loc) (ls : Array Slot), K60 σ x1 x2 → Hs D ct ad L φ N0 s.heap σ H locs → lv_has ls 5 [(0, .ref (ad 3 0)), (1, .int (iv x1)), (2, .int (iv x2))] → W p l e ({ frames := 1, cells := 0, slots := 0, locals := 22 } : Room) s m args below meth c H locs 0 0 (MQ below (Qv D ct ad L φ N0 Q) args s 0 0 (AA N0)) (F0 m 60 ls [])) (σ : St) (x1 : Int) (x2 : Int) (x3 : Int) (y0 : Int) (y1 : Int) (H : Heap) (locs : List Loc) (ls : Array Slot) (hw : wp_X3_clearCell_53 K16 K60 Q σ x1 x2 x3 y0 y1) (h : Hs D ct ad L φ N0 s.heap σ H locs) (hl : lv_has ls 5 [(0, .ref (ad 3 0)), (1, .int (iv x1)), (2, .int (iv x2)), (3, .int (iv x3))]) : W p l e ({ frames := 1, cells := 0, slots := 0, locals := 22 } : Room) s m args below meth c H locs 0 0 (MQ below (Qv D ct ad L φ N0 Q) args s 0 0 (AA N0)) (F0 m 53 ls [.int (iv y0), .int (iv y1), .ref (ad 30 0)]) := by
  have hF := X.2.2.2.2.2.2.2.2.1
  unfold wp_X3_clearCell_53 at hw
  obtain ⟨g_1, g_2, hw⟩ := hw
  refine r_iast (n := 1024) X h (hF.1 30 rfl).1 (fun _ => rfl) (by decide) g_1 g_2 rfl dX3_clearCell_53 (fun H locs h => ?_)
  obtain ⟨σ_3, eσ_3⟩ : ∃ z : St, z = st σ 30 0 (Int.toNat y1) y0 := ⟨_, rfl⟩
  rw [← eσ_3] at h
  have hw := hw σ_3 eσ_3
  refine j_iinc (kk9 := 3) (lv' := [(3, .int (iv (x3 + 1))), (0, .ref (ad 3 0)), (1, .int (iv x1)), (2, .int (iv x2))]) X dX3_clearCell_54 hl rfl (by decide) rfl (fun ls hl => ?_)
  refine lv_goto (tgt := 16) X.1 X.2.1 dX3_clearCell_57 (by decide) ?_
  exact hK16 σ_3 x1 x2 (x3 + 1) _ _ _ hw h (lv_sub hl [1, 2, 3, 0] rfl)
set_option maxRecDepth 100000 in
set_option maxHeartbeats 4000000 in
theorem lb_X3_clearCell_16 (X : Cx p s m meth c args cX3_clearCell 5 none RX3 D ct L φ N0) {K60 : St → Int → Int → Prop} (hK60 : ∀ (σ : St) (x1 : Int) (x2 : Int) (H : Heap) (locs : List Loc) (ls : Array Slot), K60 σ x1 x2 → Hs D ct ad L φ N0 s.heap σ H locs → lv_has ls 5 [(0, .ref (ad 3 0)), (1, .int (iv x1)), (2, .int (iv x2))] → W p l e ({ frames := 1, cells := 0, slots := 0, locals := 22 } : Room) s m args below meth c H locs 0 0 (MQ below (Qv D ct ad L φ N0 Q) args s 0 0 (AA N0)) (F0 m 60 ls [])) : ∀ (n : Nat) (σ : St) (x1 : Int) (x2 : Int) (x3 : Int) (H : Heap) (locs : List Loc) (ls : Array Slot), wp_X3_clearCell_16 K60 Q n σ x1 x2 x3 → Hs D ct ad L φ N0 s.heap σ H locs → lv_has ls 5 [(0, .ref (ad 3 0)), (1, .int (iv x1)), (2, .int (iv x2)), (3, .int (iv x3))] → W p l e ({ frames := 1, cells := 0, slots := 0, locals := 22 } : Room) s m args below meth c H locs 0 0 (MQ below (Qv D ct ad L φ N0 Q) args s 0 0 (AA N0)) (F0 m 16 ls []) := by
  have hF := X.2.2.2.2.2.2.2.2.1
  intro n
  induction n with
  | zero => intro σ x1 x2 x3 H locs ls hw; exact hw.elim
  | succ n ih =>
    intro σ x1 x2 x3 H locs ls hw h hl
    unfold wp_X3_clearCell_16 at hw
    refine lv_iload_n X.1 X.2.1 dX3_clearCell_16 rfl (lv_at hl 3 rfl) ?_
    refine j_iconst X dX3_clearCell_17 ?_
    obtain ⟨g_4, hwt, hwf⟩ := hw
    refine j_cmp_ge (tgt := 60) X g_4 ⟨by decide, by decide⟩ dX3_clearCell_18 (by decide) (fun c_12 => ?_) (fun c_12 => ?_)
    · have hw := hwt c_12
      exact hK60 σ x1 x2 _ _ _ hw h (lv_sub hl [0, 1, 2] rfl)
    · have hw := hwf c_12
      refine lv_iload_n X.1 X.2.1 dX3_clearCell_21 rfl (lv_at hl 1 rfl) ?_
      refine lv_iload_n X.1 X.2.1 dX3_clearCell_22 rfl (lv_at hl 2 rfl) ?_
      refine lv_iload_n X.1 X.2.1 dX3_clearCell_23 rfl (lv_at hl 3 rfl) ?_
      refine k_i h (r_S (As := [.int (iv x1), .int (iv x2), .int (iv x3)]) (rest := []) X h (c_X3_stemPlace l D ct ad L φ N0 σ x1 x2 x3 _ hw) rfl rfl ⟨Nat.le_of_ble_eq_true rfl, Nat.le_of_ble_eq_true rfl⟩ kw_789 kw_537 kw_122 kw_538 pd_X3_stemPlace rfl hl.1 rfl (Nat.le_of_ble_eq_true rfl) ⟨Nat.le_of_ble_eq_true rfl, Nat.le_of_ble_eq_true rfl⟩ dX3_clearCell_24) (fun r_6 σ_5 H locs hw h => ?_)
      refine lv_istore (lv' := [(4, .int (iv r_6)), (0, .ref (ad 3 0)), (1, .int (iv x1)), (2, .int (iv x2)), (3, .int (iv x3))]) X.1 X.2.1 dX3_clearCell_27 hl (by decide) rfl (fun ls hl => ?_)
      refine lv_aload_n X.1 X.2.1 dX3_clearCell_29 rfl (lv_at hl 1 rfl) ?_
      refine r_getR (ci := 3) X inw_3 h (hF.1 3 rfl).1 rfl rfl 2 (by decide) kw_192 rfl ((hF.1 3 rfl).2 2) dX3_clearCell_30 ?_
      refine lv_iload X.1 X.2.1 dX3_clearCell_33 (lv_at hl 0 rfl) ?_
      refine lv_iload_n X.1 X.2.1 dX3_clearCell_35 rfl (lv_at hl 4 rfl) ?_
      refine j_iconst X dX3_clearCell_36 ?_
      obtain ⟨g_7, hwt, hwf⟩ := hw
      refine j_cmp_ge (tgt := 44) X g_7 ⟨by decide, by decide⟩ dX3_clearCell_37 (by decide) (fun c_11 => ?_) (fun c_11 => ?_)
      · have hw := hwt c_11
        refine lv_aload_n X.1 X.2.1 dX3_clearCell_44 rfl (lv_at hl 1 rfl) ?_
        refine r_getR (ci := 3) X inw_3 h (hF.1 3 rfl).1 rfl rfl 2 (by decide) kw_192 rfl ((hF.1 3 rfl).2 2) dX3_clearCell_45 ?_
        refine lv_iload X.1 X.2.1 dX3_clearCell_48 (lv_at hl 0 rfl) ?_
        obtain ⟨g_8, g_9, hw⟩ := hw
        refine r_iald (n := 1024) X h (hF.1 30 rfl).1 rfl (by decide) g_8 g_9 dX3_clearCell_50 ?_
        refine j_iconst X dX3_clearCell_51 ?_
        obtain ⟨g_10, hw⟩ := hw
        refine j_idiv X g_10 ⟨by decide, by decide⟩ (by decide) (by decide) dX3_clearCell_52 ?_
        exact lb_X3_clearCell_53 X ih hK60 σ_5 x1 x2 x3 (Int.tdiv (σ_5 30 0 (Int.toNat r_6)) 2) r_6 _ _ _ hw h (lv_sub hl [1, 2, 3, 4] rfl)
      · have hw := hwf c_11
        refine j_iconst X dX3_clearCell_40 ?_
        refine lv_goto (tgt := 53) X.1 X.2.1 dX3_clearCell_41 (by decide) ?_
        exact lb_X3_clearCell_53 X ih hK60 σ_5 x1 x2 x3 0 r_6 _ _ _ hw h (lv_sub hl [1, 2, 3, 4] rfl)
set_option maxRecDepth 100000 in
set_option maxHeartbeats 4000000 in
theorem lb_X3_clearCell_9 (X : Cx p s m meth c args cX3_clearCell 5 none RX3 D ct L φ N0) : ∀ (n : Nat) (σ : St) (x1 : Int) (x2 : Int) (H : Heap) (locs : List Loc) (ls : Array Slot), wp_X3_clearCell_9 Q n σ x1 x2 → Hs D ct ad L φ N0 s.heap σ H locs → lv_has ls 5 [(0, .ref (ad 3 0)), (1, .int (iv x1)), (2, .int (iv x2))] → W p l e ({ frames := 1, cells := 0, slots := 0, locals := 22 } : Room) s m args below meth c H locs 0 0 (MQ below (Qv D ct ad L φ N0 Q) args s 0 0 (AA N0)) (F0 m 9 ls []) := by
  have hF := X.2.2.2.2.2.2.2.2.1
  intro n
  induction n with
  | zero => intro σ x1 x2 H locs ls hw; exact hw.elim
  | succ n ih =>
    intro σ x1 x2 H locs ls hw h hl
    unfold wp_X3_clearCell_9 at hw
    refine lv_iload_n X.1 X.2.1 dX3_clearCell_9 rfl (lv_at hl 2 rfl) ?_
    refine j_iconst X dX3_clearCell_10 ?_
    obtain ⟨g_13, hwt, hwf⟩ := hw
    refine j_cmp_ge (tgt := 66) X g_13 ⟨by decide, by decide⟩ dX3_clearCell_11 (by decide) (fun c_14 => ?_) (fun c_14 => ?_)
    · have hw := hwt c_14
      exact k_vr X h hw dX3_clearCell_66
    · have hw := hwf c_14
      refine j_iconst X dX3_clearCell_14 ?_
      refine lv_istore_n (lv' := [(3, .int (iv 0)), (0, .ref (ad 3 0)), (1, .int (iv x1)), (2, .int (iv x2))]) X.1 X.2.1 dX3_clearCell_15 rfl hl (by decide) rfl (fun ls hl => ?_)
      exact hw.elim (fun n16 hw => lb_X3_clearCell_16 X (lb_X3_clearCell_60 X ih) n16 σ x1 x2 0 _ _ _ hw h (lv_sub hl [1, 2, 3, 0] rfl))
theorem pd_X3_clearCell : yX3_clearCell.cls ≠ "java/lang/invoke/MethodHandle" ∧ yX3_clearCell.cls ≠ "java/lang/invoke/VarHandle" ∧ (parseMethodDescriptor yX3_clearCell.desc).map (fun d => d.parameters.length) = some 1 := by decide +kernel
set_option maxRecDepth 100000 in
set_option maxHeartbeats 4000000 in
theorem c_X3_clearCell (l : Launch) (D : va_G) (ct : Nat → ClassId) (ad : Nat → Nat → Nat) (L : List (Nat × Nat)) (φ : Nat → Nat → Nat → Bool) (N0 : Nat) (σ : St) (x1 : Int) (Q : St → Prop) (hw : wp_X3_clearCell σ x1 Q) : Met l yX3_clearCell (.code yX3_clearCell cX3_clearCell 5 none :: gw) ({ frames := 1, cells := 0, slots := 0, locals := 22 } : Room) (Pm D ct ad L φ N0 σ [.ref (ad 3 0), .int (iv x1)]) (Qv D ct ad L φ N0 Q) 0 0 (AA N0) := by
  refine m_of (by decide) (fun p e s m below meth c X hnm h => ?_)
  have hF := X.2.2.2.2.2.2.2.2.1
  have hl := lv_entry ([.ref (ad 3 0), .int (iv x1)]) (n := 5) (Nat.le_of_ble_eq_true rfl)
  rw [lg_entry_eq]
  generalize (lg_sl ([.ref (ad 3 0), .int (iv x1)]) ++ List.replicate (5 - (lg_sl ([.ref (ad 3 0), .int (iv x1)])).length) Slot.unset).toArray = ls at hl ⊢
  have hl : lv_has ls 5 [(0, .ref (ad 3 0)), (1, .int (iv x1))] := hl
  have h : Hs D ct ad L φ N0 s.heap σ s.heap [] := h
  unfold wp_X3_clearCell at hw
  refine lv_aload_n X.1 X.2.1 dX3_clearCell_0 rfl (lv_at hl 0 rfl) ?_
  refine r_getR (ci := 3) X inw_3 h (hF.1 3 rfl).1 rfl rfl 1 (by decide) kw_189 rfl ((hF.1 3 rfl).2 1) dX3_clearCell_1 ?_
  refine lv_iload_n X.1 X.2.1 dX3_clearCell_4 rfl (lv_at hl 1 rfl) ?_
  refine j_iconst X dX3_clearCell_5 ?_
  obtain ⟨g_15, g_16, hw⟩ := hw
  refine r_iast (n := 64) X h (hF.1 29 rfl).1 (fun _ => rfl) (by decide) g_15 g_16 rfl dX3_clearCell_6 (fun H locs h => ?_)
  obtain ⟨σ_17, eσ_17⟩ : ∃ z : St, z = st σ 29 0 (Int.toNat x1) 0 := ⟨_, rfl⟩
  rw [← eσ_17] at h
  have hw := hw σ_17 eσ_17
  refine j_iconst X dX3_clearCell_7 ?_
  refine lv_istore_n (lv' := [(2, .int (iv 0)), (0, .ref (ad 3 0)), (1, .int (iv x1))]) X.1 X.2.1 dX3_clearCell_8 rfl hl (by decide) rfl (fun ls hl => ?_)
  exact hw.elim (fun n9 hw => lb_X3_clearCell_9 X n9 σ_17 x1 0 _ _ _ hw h (lv_sub hl [1, 2, 0] rfl))
end
