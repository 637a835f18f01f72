/-! walked by program: 12.w -/
section
variable {p : Program} {l : Launch} {e : Env} {s : State} {m : MethodId} {args : Array Value} {below : List Frame} {meth : Method} {c : Code} {D : va_G} {ct : Nat → ClassId} {ad : Nat → Nat → Nat} {L : List (Nat × Nat)} {φ : Nat → Nat → Nat → Bool} {N0 : Nat}
variable {Q : Int → St → Prop}
theorem pd_X6_isOpen : yX6_isOpen.cls ≠ "java/lang/invoke/MethodHandle" ∧ yX6_isOpen.cls ≠ "java/lang/invoke/VarHandle" ∧ (parseMethodDescriptor yX6_isOpen.desc).map (fun d => d.parameters.length) = some 3 := by decide +kernel
set_option maxRecDepth 100000 in
set_option maxHeartbeats 4000000 in
theorem c_X6_isOpen (l : Launch) (D : va_G) (ct : Nat → ClassId) (ad : Nat → Nat → Nat) (L : List (Nat × Nat)) (φ : Nat → Nat → Nat → Bool) (N0 : Nat) (σ : St) (x1 : Int) (x2 : Int) (x3 : Int) (Q : Int → St → Prop) (hw : wp_X6_isOpen σ x1 x2 x3 Q) : Met l yX6_isOpen (.code yX6_isOpen cX6_isOpen 4 (some .boolean) :: gw) ({ frames := 0, cells := 0, slots := 0, locals := 0 } : Room) (Pm D ct ad L φ N0 σ [.ref (ad 6 0), .int (iv x1), .int (iv x2), .int (iv x3)]) (Qi D ct ad L φ N0 Q) 0 0 (AA N0) := by
  refine m_of (by decide) (fun p e s m below meth c X hnm h => ?_)
  have hF := X.2.2.2.2.2.2.2.2.1
  have hl := lv_entry ([.ref (ad 6 0), .int (iv x1), .int (iv x2), .int (iv x3)]) (n := 4) (Nat.le_of_ble_eq_true rfl)
  rw [lg_entry_eq]
  generalize (lg_sl ([.ref (ad 6 0), .int (iv x1), .int (iv x2), .int (iv x3)]) ++ List.replicate (4 - (lg_sl ([.ref (ad 6 0), .int (iv x1), .int (iv x2), .int (iv x3)])).length) Slot.unset).toArray = ls at hl ⊢
  have hl : lv_has ls 4 [(0, .ref (ad 6 0)), (1, .int (iv x1)), (2, .int (iv x2)), (3, .int (iv x3))] := hl
  have h : Hs D ct ad L φ N0 s.heap σ s.heap [] := h
  unfold wp_X6_isOpen at hw
  refine lv_aload_n X.1 X.2.1 dX6_isOpen_0 rfl (lv_at hl 0 rfl) ?_
  refine r_getR (ci := 6) X inw_6 h (hF.1 6 rfl).1 rfl rfl 1 (by decide) kw_334 rfl ((hF.1 6 rfl).2 1) dX6_isOpen_1 ?_
  refine lv_iload_n X.1 X.2.1 dX6_isOpen_4 rfl (lv_at hl 1 rfl) ?_
  obtain ⟨g_1, g_2, hw⟩ := hw
  refine r_iald (n := 30) X h (hF.1 56 rfl).1 rfl (by decide) g_1 g_2 dX6_isOpen_5 ?_
  refine lv_iload_n X.1 X.2.1 dX6_isOpen_6 rfl (lv_at hl 2 rfl) ?_
  obtain ⟨g_3, g_4, hwt, hwf⟩ := hw
  refine j_cmp_gt (tgt := 33) X g_3 g_4 dX6_isOpen_7 (by decide) (fun c_14 => ?_) (fun c_14 => ?_)
  · have hw := hwt c_14
    refine j_iconst X dX6_isOpen_33 ?_
    exact k_ir X rfl h hw dX6_isOpen_34
  · have hw := hwf c_14
    refine lv_aload_n X.1 X.2.1 dX6_isOpen_10 rfl (lv_at hl 0 rfl) ?_
    refine r_getR (ci := 6) X inw_6 h (hF.1 6 rfl).1 rfl rfl 2 (by decide) kw_335 rfl ((hF.1 6 rfl).2 2) dX6_isOpen_11 ?_
    refine lv_iload_n X.1 X.2.1 dX6_isOpen_14 rfl (lv_at hl 1 rfl) ?_
    obtain ⟨g_5, g_6, hw⟩ := hw
    refine r_iald (n := 30) X h (hF.1 57 rfl).1 rfl (by decide) g_5 g_6 dX6_isOpen_15 ?_
    obtain ⟨g_7, hwt, hwf⟩ := hw
    refine j_if_le (tgt := 33) X g_7 dX6_isOpen_16 (by decide) (fun c_13 => ?_) (fun c_13 => ?_)
    · have hw := hwt c_13
      refine j_iconst X dX6_isOpen_33 ?_
      exact k_ir X rfl h hw dX6_isOpen_34
    · have hw := hwf c_13
      refine lv_aload_n X.1 X.2.1 dX6_isOpen_19 rfl (lv_at hl 0 rfl) ?_
      refine r_getR (ci := 6) X inw_6 h (hF.1 6 rfl).1 rfl rfl 4 (by decide) kw_338 rfl ((hF.1 6 rfl).2 4) dX6_isOpen_20 ?_
      refine lv_iload_n X.1 X.2.1 dX6_isOpen_23 rfl (lv_at hl 1 rfl) ?_
      obtain ⟨g_8, g_9, hw⟩ := hw
      refine r_iald (n := 30) X h (hF.1 59 rfl).1 rfl (by decide) g_8 g_9 dX6_isOpen_24 ?_
      refine lv_iload_n X.1 X.2.1 dX6_isOpen_25 rfl (lv_at hl 3 rfl) ?_
      obtain ⟨g_10, g_11, hwt, hwf⟩ := hw
      refine j_cmp_lt (tgt := 33) X g_10 g_11 dX6_isOpen_26 (by decide) (fun c_12 => ?_) (fun c_12 => ?_)
      · have hw := hwt c_12
        refine j_iconst X dX6_isOpen_33 ?_
        exact k_ir X rfl h hw dX6_isOpen_34
      · have hw := hwf c_12
        refine j_iconst X dX6_isOpen_29 ?_
        refine lv_goto (tgt := 34) X.1 X.2.1 dX6_isOpen_30 (by decide) ?_
        exact k_ir X rfl h hw dX6_isOpen_34
end
section
variable {p : Program} {l : Launch} {e : Env} {s : State} {m : MethodId} {args : Array Value} {below : List Frame} {meth : Method} {c : Code} {D : va_G} {ct : Nat → ClassId} {ad : Nat → Nat → Nat} {L : List (Nat × Nat)} {φ : Nat → Nat → Nat → Bool} {N0 : Nat}
variable {Q : Int → St → Prop}
theorem pd_X6_fits : yX6_fits.cls ≠ "java/lang/invoke/MethodHandle" ∧ yX6_fits.cls ≠ "java/lang/invoke/VarHandle" ∧ (parseMethodDescriptor yX6_fits.desc).map (fun d => d.parameters.length) = some 4 := by decide +kernel
set_option maxRecDepth 100000 in
set_option maxHeartbeats 4000000 in
theorem c_X6_fits (l : Launch) (D : va_G) (ct : Nat → ClassId) (ad : Nat → Nat → Nat) (L : List (Nat × Nat)) (φ : Nat → Nat → Nat → Bool) (N0 : Nat) (σ : St) (x1 : Int) (x2 : Int) (x3 : Int) (x4 : Int) (Q : Int → St → Prop) (hw : wp_X6_fits σ x1 x2 x3 x4 Q) : Met l yX6_fits (.code yX6_fits cX6_fits 6 (some .boolean) :: gw) ({ frames := 0, cells := 0, slots := 0, locals := 0 } : Room) (Pm D ct ad L φ N0 σ [.ref (ad 6 0), .int (iv x1), .int (iv x2), .int (iv x3), .int (iv x4)]) (Qi D ct ad L φ N0 Q) 0 0 (AA N0) := by
  refine m_of (by decide) (fun p e s m below meth c X hnm h => ?_)
  have hF := X.2.2.2.2.2.2.2.2.1
  have hl := lv_entry ([.ref (ad 6 0), .int (iv x1), .int (iv x2), .int (iv x3), .int (iv x4)]) (n := 6) (Nat.le_of_ble_eq_true rfl)
  rw [lg_entry_eq]
  generalize (lg_sl ([.ref (ad 6 0), .int (iv x1), .int (iv x2), .int (iv x3), .int (iv x4)]) ++ List.replicate (6 - (lg_sl ([.ref (ad 6 0), .int (iv x1), .int (iv x2), .int (iv x3), .int (iv x4)])).length) Slot.unset).toArray = ls at hl ⊢
  have hl : lv_has ls 6 [(0, .ref (ad 6 0)), (1, .int (iv x1)), (2, .int (iv x2)), (3, .int (iv x3)), (4, .int (iv x4))] := hl
  have h : Hs D ct ad L φ N0 s.heap σ s.heap [] := h
  unfold wp_X6_fits at hw
  refine lv_iload_n X.1 X.2.1 dX6_fits_0 rfl (lv_at hl 2 rfl) ?_
  refine lv_aload_n X.1 X.2.1 dX6_fits_1 rfl (lv_at hl 0 rfl) ?_
  refine r_getR (ci := 6) X inw_6 h (hF.1 6 rfl).1 rfl rfl 0 (by decide) kw_333 rfl ((hF.1 6 rfl).2 0) dX6_fits_2 ?_
  refine lv_iload_n X.1 X.2.1 dX6_fits_5 rfl (lv_at hl 1 rfl) ?_
  obtain ⟨g_1, g_2, hw⟩ := hw
  refine r_iald (n := 30) X h (hF.1 55 rfl).1 rfl (by decide) g_1 g_2 dX6_fits_6 ?_
  refine j_iadd X dX6_fits_7 ?_
  refine j_bind (fun v_3 ev_3 => ?_)
  have hw := hw v_3 ev_3
  refine lv_istore (lv' := [(5, .int (iv v_3)), (0, .ref (ad 6 0)), (1, .int (iv x1)), (2, .int (iv x2)), (3, .int (iv x3)), (4, .int (iv x4))]) X.1 X.2.1 dX6_fits_8 hl (by decide) rfl (fun ls hl => ?_)
  refine lv_iload X.1 X.2.1 dX6_fits_10 (lv_at hl 0 rfl) ?_
  refine lv_iload_n X.1 X.2.1 dX6_fits_12 rfl (lv_at hl 4 rfl) ?_
  obtain ⟨g_4, g_5, hwt, hwf⟩ := hw
  refine j_cmp_gt (tgt := 33) X g_4 g_5 dX6_fits_13 (by decide) (fun c_12 => ?_) (fun c_12 => ?_)
  · have hw := hwt c_12
    refine j_iconst X dX6_fits_33 ?_
    exact k_ir X rfl h hw dX6_fits_34
  · have hw := hwf c_12
    refine lv_iload X.1 X.2.1 dX6_fits_16 (lv_at hl 5 rfl) ?_
    refine lv_iload_n X.1 X.2.1 dX6_fits_18 rfl (lv_at hl 3 rfl) ?_
    obtain ⟨g_6, g_7, hwt, hwf⟩ := hw
    refine j_cmp_lt (tgt := 29) X g_6 g_7 dX6_fits_19 (by decide) (fun c_11 => ?_) (fun c_11 => ?_)
    · have hw := hwt c_11
      refine j_iconst X dX6_fits_29 ?_
      refine lv_goto (tgt := 34) X.1 X.2.1 dX6_fits_30 (by decide) ?_
      exact k_ir X rfl h hw dX6_fits_34
    · have hw := hwf c_11
      refine lv_iload X.1 X.2.1 dX6_fits_22 (lv_at hl 5 rfl) ?_
      refine lv_iload X.1 X.2.1 dX6_fits_24 (lv_at hl 0 rfl) ?_
      obtain ⟨g_8, g_9, hwt, hwf⟩ := hw
      refine j_cmp_lt (tgt := 33) X g_8 g_9 dX6_fits_26 (by decide) (fun c_10 => ?_) (fun c_10 => ?_)
      · have hw := hwt c_10
        refine j_iconst X dX6_fits_33 ?_
        exact k_ir X rfl h hw dX6_fits_34
      · have hw := hwf c_10
        refine j_iconst X dX6_fits_29 ?_
        refine lv_goto (tgt := 34) X.1 X.2.1 dX6_fits_30 (by decide) ?_
        exact k_ir X rfl h hw dX6_fits_34
end
section
variable {p : Program} {l : Launch} {e : Env} {s : State} {m : MethodId} {args : Array Value} {below : List Frame} {meth : Method} {c : Code} {D : va_G} {ct : Nat → ClassId} {ad : Nat → Nat → Nat} {L : List (Nat × Nat)} {φ : Nat → Nat → Nat → Bool} {N0 : Nat}
variable {Q : Int → St → Prop}
theorem pd_X6_behind : yX6_behind.cls ≠ "java/lang/invoke/MethodHandle" ∧ yX6_behind.cls ≠ "java/lang/invoke/VarHandle" ∧ (parseMethodDescriptor yX6_behind.desc).map (fun d => d.parameters.length) = some 3 := by decide +kernel
set_option maxRecDepth 100000 in
set_option maxHeartbeats 4000000 in
theorem c_X6_behind (l : Launch) (D : va_G) (ct : Nat → ClassId) (ad : Nat → Nat → Nat) (L : List (Nat × Nat)) (φ : Nat → Nat → Nat → Bool) (N0 : Nat) (σ : St) (x1 : Int) (x2 : Int) (x3 : Int) (Q : Int → St → Prop) (hw : wp_X6_behind σ x1 x2 x3 Q) : Met l yX6_behind (.code yX6_behind cX6_behind 4 (some .int) :: gw) ({ frames := 1, cells := 0, slots := 0, locals := 21 } : Room) (Pm D ct ad L φ N0 σ [.ref (ad 6 0), .int (iv x1), .int (iv x2), .int (iv x3)]) (Qi D ct ad L φ N0 Q) 0 0 (AA N0) := by
  refine m_of (by decide) (fun p e s m below meth c X hnm h => ?_)
  have hF := X.2.2.2.2.2.2.2.2.1
  have hl := lv_entry ([.ref (ad 6 0), .int (iv x1), .int (iv x2), .int (iv x3)]) (n := 4) (Nat.le_of_ble_eq_true rfl)
  rw [lg_entry_eq]
  generalize (lg_sl ([.ref (ad 6 0), .int (iv x1), .int (iv x2), .int (iv x3)]) ++ List.replicate (4 - (lg_sl ([.ref (ad 6 0), .int (iv x1), .int (iv x2), .int (iv x3)])).length) Slot.unset).toArray = ls at hl ⊢
  have hl : lv_has ls 4 [(0, .ref (ad 6 0)), (1, .int (iv x1)), (2, .int (iv x2)), (3, .int (iv x3))] := hl
  have h : Hs D ct ad L φ N0 s.heap σ s.heap [] := h
  unfold wp_X6_behind at hw
  refine lv_iload_n X.1 X.2.1 dX6_behind_0 rfl (lv_at hl 3 rfl) ?_
  refine lv_iload_n X.1 X.2.1 dX6_behind_1 rfl (lv_at hl 1 rfl) ?_
  refine lv_aload_n X.1 X.2.1 dX6_behind_2 rfl (lv_at hl 0 rfl) ?_
  refine r_getR (ci := 6) X inw_6 h (hF.1 6 rfl).1 rfl rfl 0 (by decide) kw_333 rfl ((hF.1 6 rfl).2 0) dX6_behind_3 ?_
  refine lv_iload_n X.1 X.2.1 dX6_behind_6 rfl (lv_at hl 2 rfl) ?_
  obtain ⟨g_1, g_2, hw⟩ := hw
  refine r_iald (n := 30) X h (hF.1 55 rfl).1 rfl (by decide) g_1 g_2 dX6_behind_7 ?_
  refine j_iadd X dX6_behind_8 ?_
  refine j_iconst X dX6_behind_9 ?_
  refine j_iadd X dX6_behind_10 ?_
  refine k_i h (r_S (As := [.int (iv x3), .int (iv ((x1 + (σ 55 0 (Int.toNat x2))) + 1))]) (rest := []) X h (c_J9_min_7cf53 l D ct ad L φ N0 σ x3 ((x1 + (σ 55 0 (Int.toNat x2))) + 1) _ hw) rfl rfl ⟨Nat.le_of_ble_eq_true rfl, Nat.le_of_ble_eq_true rfl⟩ kw_1263 kw_918 kw_130 kw_919 pd_J9_min_7cf53 rfl hl.1 rfl (Nat.le_of_ble_eq_true rfl) ⟨Nat.le_of_ble_eq_true rfl, Nat.le_of_ble_eq_true rfl⟩ dX6_behind_11) (fun r_4 σ_3 H locs hw h => ?_)
  exact k_ir X rfl h hw dX6_behind_14
end
section
variable {p : Program} {l : Launch} {e : Env} {s : State} {m : MethodId} {args : Array Value} {below : List Frame} {meth : Method} {c : Code} {D : va_G} {ct : Nat → ClassId} {ad : Nat → Nat → Nat} {L : List (Nat × Nat)} {φ : Nat → Nat → Nat → Bool} {N0 : Nat}
variable {Q : St → Prop}
set_option maxRecDepth 100000 in
set_option maxHeartbeats 4000000 in
theorem lb_X6_weigh_113 (X : Cx p s m meth c args cX6_weigh 7 none RX6 D ct L φ N0) (σ : St) (x2 : Int) (H : Heap) (locs : List Loc) (ls : Array Slot) (hw : wp_X6_weigh_113 Q σ x2) (h : Hs D ct ad L φ N0 s.heap σ H locs) (hl : lv_has ls 7 [(0, .ref (ad 6 0)), (2, .int (iv x2))]) : W p l e ({ frames := 2, cells := 0, slots := 0, locals := 44 } : Room) s m args below meth c H locs 0 0 (MQ below (Qv D ct ad L φ N0 Q) args s 0 0 (AA N0)) (F0 m 113 ls []) := by
  have hF := X.2.2.2.2.2.2.2.2.1
  unfold wp_X6_weigh_113 at hw
  refine lv_aload_n X.1 X.2.1 dX6_weigh_113 rfl (lv_at hl 0 rfl) ?_
  refine r_getR (ci := 6) X inw_6 h (hF.1 6 rfl).1 rfl rfl 8 (by decide) kw_346 rfl ((hF.1 6 rfl).2 8) dX6_weigh_114 ?_
  refine lv_iload_n X.1 X.2.1 dX6_weigh_117 rfl (lv_at hl 1 rfl) ?_
  refine j_iconst X dX6_weigh_118 ?_
  refine j_iadd X dX6_weigh_119 ?_
  obtain ⟨g_1, g_2, hw⟩ := hw
  refine r_iald (n := 35) X h (hF.1 61 rfl).1 rfl (by decide) g_1 g_2 dX6_weigh_120 ?_
  refine lv_aload_n X.1 X.2.1 dX6_weigh_121 rfl (lv_at hl 0 rfl) ?_
  refine r_getR (ci := 6) X inw_6 h (hF.1 6 rfl).1 rfl rfl 8 (by decide) kw_346 rfl ((hF.1 6 rfl).2 8) dX6_weigh_122 ?_
  refine lv_iload_n X.1 X.2.1 dX6_weigh_125 rfl (lv_at hl 1 rfl) ?_
  obtain ⟨g_3, g_4, hw⟩ := hw
  refine r_iald (n := 35) X h (hF.1 61 rfl).1 rfl (by decide) g_3 g_4 dX6_weigh_126 ?_
  obtain ⟨g_5, g_6, hwt, hwf⟩ := hw
  refine j_cmp_le (tgt := 152) X g_5 g_6 dX6_weigh_127 (by decide) (fun c_15 => ?_) (fun c_15 => ?_)
  · have hw := hwt c_15
    exact k_vr X h hw dX6_weigh_152
  · have hw := hwf c_15
    refine lv_aload_n X.1 X.2.1 dX6_weigh_130 rfl (lv_at hl 0 rfl) ?_
    refine r_getR (ci := 6) X inw_6 h (hF.1 6 rfl).1 rfl rfl 8 (by decide) kw_346 rfl ((hF.1 6 rfl).2 8) dX6_weigh_131 ?_
    refine lv_iload_n X.1 X.2.1 dX6_weigh_134 rfl (lv_at hl 1 rfl) ?_
    refine lv_aload_n X.1 X.2.1 dX6_weigh_135 rfl (lv_at hl 0 rfl) ?_
    refine r_getR (ci := 6) X inw_6 h (hF.1 6 rfl).1 rfl rfl 8 (by decide) kw_346 rfl ((hF.1 6 rfl).2 8) dX6_weigh_136 ?_
    refine lv_iload_n X.1 X.2.1 dX6_weigh_139 rfl (lv_at hl 1 rfl) ?_
    refine j_iconst X dX6_weigh_140 ?_
    refine j_iadd X dX6_weigh_141 ?_
    obtain ⟨g_7, g_8, hw⟩ := hw
    refine r_iald (n := 35) X h (hF.1 61 rfl).1 rfl (by decide) g_7 g_8 dX6_weigh_142 ?_
    obtain ⟨g_9, g_10, hw⟩ := hw
    refine r_iast (n := 35) X h (hF.1 61 rfl).1 (fun _ => rfl) (by decide) g_9 g_10 rfl dX6_weigh_143 (fun H locs h => ?_)
    obtain ⟨σ_11, eσ_11⟩ : ∃ z : St, z = st σ 61 0 (Int.toNat x2) (σ 61 0 (Int.toNat (x2 + 1))) := ⟨_, rfl⟩
    rw [← eσ_11] at h
    have hw := hw σ_11 eσ_11
    refine lv_aload_n X.1 X.2.1 dX6_weigh_144 rfl (lv_at hl 0 rfl) ?_
    refine r_getR (ci := 6) X inw_6 h (hF.1 6 rfl).1 rfl rfl 9 (by decide) kw_348 rfl ((hF.1 6 rfl).2 9) dX6_weigh_145 ?_
    refine lv_iload_n X.1 X.2.1 dX6_weigh_148 rfl (lv_at hl 1 rfl) ?_
    refine j_bipush X dX6_weigh_149 (by decide) ?_
    obtain ⟨g_12, g_13, hw⟩ := hw
    refine r_iast (n := 35) X h (hF.1 62 rfl).1 (fun _ => rfl) (by decide) g_12 g_13 rfl dX6_weigh_151 (fun H locs h => ?_)
    obtain ⟨σ_14, eσ_14⟩ : ∃ z : St, z = st σ_11 62 0 (Int.toNat x2) (-2) := ⟨_, rfl⟩
    rw [← eσ_14] at h
    have hw := hw σ_14 eσ_14
    exact k_vr X h hw dX6_weigh_152
set_option maxRecDepth 100000 in
set_option maxHeartbeats 4000000 in
theorem lb_X6_weigh_107 (X : Cx p s m meth c args cX6_weigh 7 none RX6 D ct L φ N0) {K18 : St → Nat → Int → Int → Int → Int → Prop} {K113 : St → Int → Prop} (hK18 : ∀ (σ : St) (j1 : Nat) (x2 : Int) (x3 : Int) (x4 : Int) (x5 : Int) (H : Heap) (locs : List Loc) (ls : Array Slot), K18 σ j1 x2 x3 x4 x5 → Hs D ct ad L φ N0 s.heap σ H locs → lv_has ls 7 [(0, .ref (ad 6 0)), (1, .ref (ad 4 j1)), (2, .int (iv x2)), (3, .int (iv x3)), (4, .int (iv x4)), (5, .int (iv x5))] → W p l e ({ frames := 2, cells := 0, slots := 0, locals := 44 } : Room) s m args below meth c H locs 0 0 (MQ below (Qv D ct ad L φ N0 Q) args s 0 0 (AA N0)) (F0 m 18 ls [])) (hK113 : ∀ (σ : St) (x2 : Int) (H : Heap) (locs : List Loc) (ls : Array Slot), K113 σ x2 → Hs D ct ad L φ N0 s.heap σ H locs → lv_has ls 7 [(0, .ref (ad 6 0)), (2, .int (iv x2))] → W p l e ({ frames := 2, cells := 0, slots := 0, locals := 44 } : Room) s m args below meth c H locs 0 0 (MQ below (Qv D ct ad L φ N0 Q) args s 0 0 (AA N0)) (F0 m 113 ls [])) (σ : St) (j1 : Nat) (x2 : Int) (x3 : Int) (x4 : Int) (x5 : Int) (H : Heap) (locs : List Loc) (ls : Array Slot) (hw : wp_X6_weigh_107 K18 K113 Q σ j1 x2 x3 x4 x5) (h : Hs D ct ad L φ N0 s.heap σ H locs) (hl : lv_has ls 7 [(0, .ref (ad 6 0)), (1, .ref (ad 4 j1)), (2, .int (iv x2)), (3, .int (iv x3)), (4, .int (iv x4)), (5, .int (iv x5))]) : W p l e ({ frames := 2, cells := 0, slots := 0, locals := 44 } : Room) s m args below meth c H locs 0 0 (MQ below (Qv D ct ad L φ N0 Q) args s 0 0 (AA N0)) (F0 m 107 ls []) := by
  have hF := X.2.2.2.2.2.2.2.2.1
  unfold wp_X6_weigh_107 at hw
  refine j_iinc (kk9 := 5) (lv' := [(5, .int (iv (x5 + 1))), (0, .ref (ad 6 0)), (1, .ref (ad 4 j1)), (2, .int (iv x2)), (3, .int (iv x3)), (4, .int (iv x4))]) X dX6_weigh_107 hl rfl (by decide) rfl (fun ls hl => ?_)
  refine lv_goto (tgt := 18) X.1 X.2.1 dX6_weigh_110 (by decide) ?_
  exact hK18 σ j1 x2 x3 x4 (x5 + 1) _ _ _ hw h (lv_sub hl [1, 2, 3, 4, 5, 0] rfl)
set_option maxRecDepth 100000 in
set_option maxHeartbeats 4000000 in
theorem lb_X6_weigh_18 (X : Cx p s m meth c args cX6_weigh 7 none RX6 D ct L φ N0) {K113 : St → Int → Prop} (hK113 : ∀ (σ : St) (x2 : Int) (H : Heap) (locs : List Loc) (ls : Array Slot), K113 σ x2 → Hs D ct ad L φ N0 s.heap σ H locs → lv_has ls 7 [(0, .ref (ad 6 0)), (2, .int (iv x2))] → W p l e ({ frames := 2, cells := 0, slots := 0, locals := 44 } : Room) s m args below meth c H locs 0 0 (MQ below (Qv D ct ad L φ N0 Q) args s 0 0 (AA N0)) (F0 m 113 ls [])) : ∀ (n : Nat) (σ : St) (j1 : Nat) (x2 : Int) (x3 : Int) (x4 : Int) (x5 : Int) (H : Heap) (locs : List Loc) (ls : Array Slot), wp_X6_weigh_18 K113 Q n σ j1 x2 x3 x4 x5 → Hs D ct ad L φ N0 s.heap σ H locs → lv_has ls 7 [(0, .ref (ad 6 0)), (1, .ref (ad 4 j1)), (2, .int (iv x2)), (3, .int (iv x3)), (4, .int (iv x4)), (5, .int (iv x5))] → W p l e ({ frames := 2, cells := 0, slots := 0, locals := 44 } : Room) s m args below meth c H locs 0 0 (MQ below (Qv D ct ad L φ N0 Q) args s 0 0 (AA N0)) (F0 m 18 ls []) := by
  have hF := X.2.2.2.2.2.2.2.2.1
  intro n
  induction n with
  | zero => intro σ j1 x2 x3 x4 x5 H locs ls hw; exact hw.elim
  | succ n ih =>
    intro σ j1 x2 x3 x4 x5 H locs ls hw h hl
    unfold wp_X6_weigh_18 at hw
    refine lv_iload X.1 X.2.1 dX6_weigh_18 (lv_at hl 5 rfl) ?_
    refine lv_aload_n X.1 X.2.1 dX6_weigh_20 rfl (lv_at hl 0 rfl) ?_
    refine r_get (ci := 6) X inw_6 h (hF.1 6 rfl).1 rfl rfl 6 (by decide) kw_342 rfl dX6_weigh_21 ?_
    obtain ⟨g_16, g_17, hwt, hwf⟩ := hw
    refine j_cmp_ge (tgt := 113) X g_16 g_17 dX6_weigh_24 (by decide) (fun c_46 => ?_) (fun c_46 => ?_)
    · have hw := hwt c_46
      exact hK113 σ x2 _ _ _ hw h (lv_sub hl [0, 2] rfl)
    · have hw := hwf c_46
      refine lv_aload_n X.1 X.2.1 dX6_weigh_27 rfl (lv_at hl 0 rfl) ?_
      refine lv_iload X.1 X.2.1 dX6_weigh_28 (lv_at hl 5 rfl) ?_
      refine lv_aload_n X.1 X.2.1 dX6_weigh_30 rfl (lv_at hl 1 rfl) ?_
      obtain ⟨g_18, hw⟩ := hw
      refine r_getN (ci := 4) X inw_4 h (h.2.2.1 j1 g_18).1 rfl rfl 1 (by decide) kw_708 rfl dX6_weigh_31 ?_
      refine lv_iload X.1 X.2.1 dX6_weigh_34 (lv_at hl 4 rfl) ?_
      refine k_i h (r_V (C := RX6) (ci := 6) (As := [.int (iv x5), .int (iv (σ 4 j1 1)), .int (iv x4)]) (rest := []) X h (c_X6_isOpen l D ct ad L φ N0 σ x5 (σ 4 j1 1) x4 _ hw) rfl rfl ⟨Nat.le_of_ble_eq_true rfl, Nat.le_of_ble_eq_true rfl⟩ kw_1268 kw_1270 kw_40 kw_126 kw_1271 ⟨rfl, pd_X6_isOpen⟩ (hF.1 6 rfl).1 rfl rfl rfl hl.1 rfl (Nat.le_of_ble_eq_true rfl) ⟨Nat.le_of_ble_eq_true rfl, Nat.le_of_ble_eq_true rfl⟩ dX6_weigh_36) (fun r_20 σ_19 H locs hw h => ?_)
      obtain ⟨g_21, hwt, hwf⟩ := hw
      refine j_if_eq (tgt := 107) X g_21 dX6_weigh_39 (by decide) (fun c_45 => ?_) (fun c_45 => ?_)
      · have hw := hwt c_45
        exact lb_X6_weigh_107 X ih hK113 σ_19 j1 x2 x3 x4 x5 _ _ _ hw h (lv_sub hl [0, 1, 2, 3, 4, 5] rfl)
      · have hw := hwf c_45
        refine lv_aload_n X.1 X.2.1 dX6_weigh_42 rfl (lv_at hl 0 rfl) ?_
        refine lv_iload X.1 X.2.1 dX6_weigh_43 (lv_at hl 5 rfl) ?_
        refine lv_iload_n X.1 X.2.1 dX6_weigh_45 rfl (lv_at hl 2 rfl) ?_
        refine lv_iload_n X.1 X.2.1 dX6_weigh_46 rfl (lv_at hl 3 rfl) ?_
        refine lv_aload_n X.1 X.2.1 dX6_weigh_47 rfl (lv_at hl 1 rfl) ?_
        obtain ⟨g_22, hw⟩ := hw
        refine r_getN (ci := 4) X inw_4 h (h.2.2.1 j1 g_22).1 rfl rfl 4 (by decide) kw_714 rfl dX6_weigh_48 ?_
        refine k_i h (r_V (C := RX6) (ci := 6) (As := [.int (iv x5), .int (iv x2), .int (iv x3), .int (iv (σ_19 4 j1 4))]) (rest := []) X h (c_X6_fits l D ct ad L φ N0 σ_19 x5 x2 x3 (σ_19 4 j1 4) _ hw) rfl rfl ⟨Nat.le_of_ble_eq_true rfl, Nat.le_of_ble_eq_true rfl⟩ kw_1272 kw_1274 kw_41 kw_126 kw_1275 ⟨rfl, pd_X6_fits⟩ (hF.1 6 rfl).1 rfl rfl rfl hl.1 rfl (Nat.le_of_ble_eq_true rfl) ⟨Nat.le_of_ble_eq_true rfl, Nat.le_of_ble_eq_true rfl⟩ dX6_weigh_51) (fun r_24 σ_23 H locs hw h => ?_)
        obtain ⟨g_25, hwt, hwf⟩ := hw
        refine j_if_eq (tgt := 107) X g_25 dX6_weigh_54 (by decide) (fun c_44 => ?_) (fun c_44 => ?_)
        · have hw := hwt c_44
          exact lb_X6_weigh_107 X ih hK113 σ_23 j1 x2 x3 x4 x5 _ _ _ hw h (lv_sub hl [0, 1, 2, 3, 4, 5] rfl)
        · have hw := hwf c_44
          refine lv_aload_n X.1 X.2.1 dX6_weigh_57 rfl (lv_at hl 0 rfl) ?_
          refine r_getR (ci := 6) X inw_6 h (hF.1 6 rfl).1 rfl rfl 3 (by decide) kw_337 rfl ((hF.1 6 rfl).2 3) dX6_weigh_58 ?_
          refine lv_iload X.1 X.2.1 dX6_weigh_61 (lv_at hl 5 rfl) ?_
          obtain ⟨g_26, g_27, hw⟩ := hw
          refine r_iald (n := 30) X h (hF.1 58 rfl).1 rfl (by decide) g_26 g_27 dX6_weigh_63 ?_
          refine lv_aload_n X.1 X.2.1 dX6_weigh_64 rfl (lv_at hl 0 rfl) ?_
          refine r_getR (ci := 6) X inw_6 h (hF.1 6 rfl).1 rfl rfl 8 (by decide) kw_346 rfl ((hF.1 6 rfl).2 8) dX6_weigh_65 ?_
          refine lv_aload_n X.1 X.2.1 dX6_weigh_68 rfl (lv_at hl 0 rfl) ?_
          refine lv_iload_n X.1 X.2.1 dX6_weigh_69 rfl (lv_at hl 2 rfl) ?_
          refine lv_iload X.1 X.2.1 dX6_weigh_70 (lv_at hl 5 rfl) ?_
          refine lv_iload_n X.1 X.2.1 dX6_weigh_72 rfl (lv_at hl 3 rfl) ?_
          refine k_i h (r_V (C := RX6) (ci := 6) (As := [.int (iv x2), .int (iv x5), .int (iv x3)]) (rest := [.ref (ad 61 0), .int (iv (σ_23 58 0 (Int.toNat x5)))]) X h (c_X6_behind l D ct ad L φ N0 σ_23 x2 x5 x3 _ hw) rfl rfl ⟨Nat.le_of_ble_eq_true rfl, Nat.le_of_ble_eq_true rfl⟩ kw_1276 kw_1278 kw_42 kw_126 kw_1279 ⟨rfl, pd_X6_behind⟩ (hF.1 6 rfl).1 rfl rfl rfl hl.1 rfl (Nat.le_of_ble_eq_true rfl) ⟨Nat.le_of_ble_eq_true rfl, Nat.le_of_ble_eq_true rfl⟩ dX6_weigh_73) (fun r_29 σ_28 H locs hw h => ?_)
          obtain ⟨g_30, g_31, hw⟩ := hw
          refine r_iald (n := 35) X h (hF.1 61 rfl).1 rfl (by decide) g_30 g_31 dX6_weigh_76 ?_
          refine j_iadd X dX6_weigh_77 ?_
          refine j_bind (fun v_32 ev_32 => ?_)
          have hw := hw v_32 ev_32
          refine lv_istore (lv' := [(6, .int (iv v_32)), (0, .ref (ad 6 0)), (1, .ref (ad 4 j1)), (2, .int (iv x2)), (3, .int (iv x3)), (4, .int (iv x4)), (5, .int (iv x5))]) X.1 X.2.1 dX6_weigh_78 hl (by decide) rfl (fun ls hl => ?_)
          refine lv_iload X.1 X.2.1 dX6_weigh_80 (lv_at hl 0 rfl) ?_
          refine lv_aload_n X.1 X.2.1 dX6_weigh_82 rfl (lv_at hl 1 rfl) ?_
          refine r_getR (ci := 6) X inw_6 h (hF.1 6 rfl).1 rfl rfl 8 (by decide) kw_346 rfl ((hF.1 6 rfl).2 8) dX6_weigh_83 ?_
          refine lv_iload_n X.1 X.2.1 dX6_weigh_86 rfl (lv_at hl 3 rfl) ?_
          obtain ⟨g_33, g_34, hw⟩ := hw
          refine r_iald (n := 35) X h (hF.1 61 rfl).1 rfl (by decide) g_33 g_34 dX6_weigh_87 ?_
          obtain ⟨g_35, g_36, hwt, hwf⟩ := hw
          refine j_cmp_le (tgt := 107) X g_35 g_36 dX6_weigh_88 (by decide) (fun c_43 => ?_) (fun c_43 => ?_)
          · have hw := hwt c_43
            exact lb_X6_weigh_107 X ih hK113 σ_28 j1 x2 x3 x4 x5 _ _ _ hw h (lv_sub hl [1, 2, 3, 4, 5, 6] rfl)
          · have hw := hwf c_43
            refine lv_aload_n X.1 X.2.1 dX6_weigh_91 rfl (lv_at hl 1 rfl) ?_
            refine r_getR (ci := 6) X inw_6 h (hF.1 6 rfl).1 rfl rfl 8 (by decide) kw_346 rfl ((hF.1 6 rfl).2 8) dX6_weigh_92 ?_
            refine lv_iload_n X.1 X.2.1 dX6_weigh_95 rfl (lv_at hl 3 rfl) ?_
            refine lv_iload X.1 X.2.1 dX6_weigh_96 (lv_at hl 0 rfl) ?_
            obtain ⟨g_37, g_38, hw⟩ := hw
            refine r_iast (n := 35) X h (hF.1 61 rfl).1 (fun _ => rfl) (by decide) g_37 g_38 rfl dX6_weigh_98 (fun H locs h => ?_)
            obtain ⟨σ_39, eσ_39⟩ : ∃ z : St, z = st σ_28 61 0 (Int.toNat x2) v_32 := ⟨_, rfl⟩
            rw [← eσ_39] at h
            have hw := hw σ_39 eσ_39
            refine lv_aload_n X.1 X.2.1 dX6_weigh_99 rfl (lv_at hl 1 rfl) ?_
            refine r_getR (ci := 6) X inw_6 h (hF.1 6 rfl).1 rfl rfl 9 (by decide) kw_348 rfl ((hF.1 6 rfl).2 9) dX6_weigh_100 ?_
            refine lv_iload_n X.1 X.2.1 dX6_weigh_103 rfl (lv_at hl 3 rfl) ?_
            refine lv_iload X.1 X.2.1 dX6_weigh_104 (lv_at hl 6 rfl) ?_
            obtain ⟨g_40, g_41, hw⟩ := hw
            refine r_iast (n := 35) X h (hF.1 62 rfl).1 (fun _ => rfl) (by decide) g_40 g_41 rfl dX6_weigh_106 (fun H locs h => ?_)
            obtain ⟨σ_42, eσ_42⟩ : ∃ z : St, z = st σ_39 62 0 (Int.toNat x2) x5 := ⟨_, rfl⟩
            rw [← eσ_42] at h
            have hw := hw σ_42 eσ_42
            exact lb_X6_weigh_107 X ih hK113 σ_42 j1 x2 x3 x4 x5 _ _ _ hw h (lv_sub hl [1, 2, 3, 4, 5, 6] rfl)
theorem pd_X6_weigh : yX6_weigh.cls ≠ "java/lang/invoke/MethodHandle" ∧ yX6_weigh.cls ≠ "java/lang/invoke/VarHandle" ∧ (parseMethodDescriptor yX6_weigh.desc).map (fun d => d.parameters.length) = some 4 := by decide +kernel
set_option maxRecDepth 100000 in
set_option maxHeartbeats 4000000 in
theorem c_X6_weigh (l : Launch) (D : va_G) (ct : Nat → ClassId) (ad : Nat → Nat → Nat) (L : List (Nat × Nat)) (φ : Nat → Nat → Nat → Bool) (N0 : Nat) (σ : St) (j1 : Nat) (x2 : Int) (x3 : Int) (x4 : Int) (Q : St → Prop) (hw : wp_X6_weigh σ j1 x2 x3 x4 Q) : Met l yX6_weigh (.code yX6_weigh cX6_weigh 7 none :: gw) ({ frames := 2, cells := 0, slots := 0, locals := 44 } : Room) (Pm D ct ad L φ N0 σ [.ref (ad 6 0), .ref (ad 4 j1), .int (iv x2), .int (iv x3), .int (iv x4)]) (Qv D ct ad L φ N0 Q) 0 0 (AA N0) := by
  refine m_of (by decide) (fun p e s m below meth c X hnm h => ?_)
  have hF := X.2.2.2.2.2.2.2.2.1
  have hl := lv_entry ([.ref (ad 6 0), .ref (ad 4 j1), .int (iv x2), .int (iv x3), .int (iv x4)]) (n := 7) (Nat.le_of_ble_eq_true rfl)
  rw [lg_entry_eq]
  generalize (lg_sl ([.ref (ad 6 0), .ref (ad 4 j1), .int (iv x2), .int (iv x3), .int (iv x4)]) ++ List.replicate (7 - (lg_sl ([.ref (ad 6 0), .ref (ad 4 j1), .int (iv x2), .int (iv x3), .int (iv x4)])).length) Slot.unset).toArray = ls at hl ⊢
  have hl : lv_has ls 7 [(0, .ref (ad 6 0)), (1, .ref (ad 4 j1)), (2, .int (iv x2)), (3, .int (iv x3)), (4, .int (iv x4))] := hl
  have h : Hs D ct ad L φ N0 s.heap σ s.heap [] := h
  unfold wp_X6_weigh at hw
  refine lv_aload_n X.1 X.2.1 dX6_weigh_0 rfl (lv_at hl 0 rfl) ?_
  refine r_getR (ci := 6) X inw_6 h (hF.1 6 rfl).1 rfl rfl 8 (by decide) kw_346 rfl ((hF.1 6 rfl).2 8) dX6_weigh_1 ?_
  refine lv_iload_n X.1 X.2.1 dX6_weigh_4 rfl (lv_at hl 2 rfl) ?_
  refine j_iconst X dX6_weigh_5 ?_
  obtain ⟨g_47, g_48, hw⟩ := hw
  refine r_iast (n := 35) X h (hF.1 61 rfl).1 (fun _ => rfl) (by decide) g_47 g_48 rfl dX6_weigh_6 (fun H locs h => ?_)
  obtain ⟨σ_49, eσ_49⟩ : ∃ z : St, z = st σ 61 0 (Int.toNat x2) (-1) := ⟨_, rfl⟩
  rw [← eσ_49] at h
  have hw := hw σ_49 eσ_49
  refine lv_aload_n X.1 X.2.1 dX6_weigh_7 rfl (lv_at hl 0 rfl) ?_
  refine r_getR (ci := 6) X inw_6 h (hF.1 6 rfl).1 rfl rfl 9 (by decide) kw_348 rfl ((hF.1 6 rfl).2 9) dX6_weigh_8 ?_
  refine lv_iload_n X.1 X.2.1 dX6_weigh_11 rfl (lv_at hl 2 rfl) ?_
  refine j_bipush X dX6_weigh_12 (by decide) ?_
  obtain ⟨g_50, g_51, hw⟩ := hw
  refine r_iast (n := 35) X h (hF.1 62 rfl).1 (fun _ => rfl) (by decide) g_50 g_51 rfl dX6_weigh_14 (fun H locs h => ?_)
  obtain ⟨σ_52, eσ_52⟩ : ∃ z : St, z = st σ_49 62 0 (Int.toNat x2) (-2) := ⟨_, rfl⟩
  rw [← eσ_52] at h
  have hw := hw σ_52 eσ_52
  refine j_iconst X dX6_weigh_15 ?_
  refine lv_istore (lv' := [(5, .int (iv 0)), (0, .ref (ad 6 0)), (1, .ref (ad 4 j1)), (2, .int (iv x2)), (3, .int (iv x3)), (4, .int (iv x4))]) X.1 X.2.1 dX6_weigh_16 hl (by decide) rfl (fun ls hl => ?_)
  exact hw.elim (fun n18 hw => lb_X6_weigh_18 X (lb_X6_weigh_113 X) n18 σ_52 j1 x2 x3 x4 0 _ _ _ hw h (lv_sub hl [1, 2, 3, 4, 5, 0] rfl))
end
section
variable {p : Program} {l : Launch} {e : Env} {s : State} {m : MethodId} {args : Array Value} {below : List Frame} {meth : Method} {c : Code} {D : va_G} {ct : Nat → ClassId} {ad : Nat → Nat → Nat} {L : List (Nat × Nat)} {φ : Nat → Nat → Nat → Bool} {N0 : Nat}
variable {Q : St → Prop}
set_option maxRecDepth 100000 in
set_option maxHeartbeats 4000000 in
theorem lb_X6_plan_119 (X : Cx p s m meth c args cX6_plan 6 none RX6 D ct L φ N0) {K48 : St → Int → Int → Int → Prop} (hK48 : ∀ (σ : St) (x3 : Int) (x4 : Int) (x5 : Int) (H : Heap) (locs : List Loc) (ls : Array Slot), K48 σ x3 x4 x5 → Hs D ct ad L φ N0 s.heap σ H locs → lv_has ls 6 [(0, .ref (ad 6 0)), (3, .int (iv x3)), (4, .int (iv x4)), (5, .int (iv x5))] → W p l e ({ frames := 3, cells := 0, slots := 0, locals := 70 } : Room) s m args below meth c H locs 0 0 (MQ below (Qv D ct ad L φ N0 Q) args s 0 0 (AA N0)) (F0 m 48 ls [])) (σ : St) (x3 : Int) (x4 : Int) (x5 : Int) (H : Heap) (locs : List Loc) (ls : Array Slot) (hw : wp_X6_plan_119 K48 Q σ x3 x4 x5) (h : Hs D ct ad L φ N0 s.heap σ H locs) (hl : lv_has ls 6 [(0, .ref (ad 6 0)), (3, .int (iv x3)), (4, .int (iv x4)), (5, .int (iv x5))]) : W p l e ({ frames := 3, cells := 0, slots := 0, locals := 70 } : Room) s m args below meth c H locs 0 0 (MQ below (Qv D ct ad L φ N0 Q) args s 0 0 (AA N0)) (F0 m 119 ls []) := by
  have hF := X.2.2.2.2.2.2.2.2.1
  unfold wp_X6_plan_119 at hw
  refine j_iinc (kk9 := 3) (lv' := [(5, .int (iv (x5 + 1))), (0, .ref (ad 6 0)), (3, .int (iv x3)), (4, .int (iv x4))]) X dX6_plan_119 hl rfl (by decide) rfl (fun ls hl => ?_)
  refine lv_goto (tgt := 48) X.1 X.2.1 dX6_plan_122 (by decide) ?_
  exact hK48 σ x3 x4 (x5 + 1) _ _ _ hw h (lv_sub hl [1, 2, 3, 0] rfl)
set_option maxRecDepth 100000 in
set_option maxHeartbeats 4000000 in
theorem lb_X6_plan_117 (X : Cx p s m meth c args cX6_plan 6 none RX6 D ct L φ N0) {K48 : St → Int → Int → Int → Prop} (hK48 : ∀ (σ : St) (x3 : Int) (x4 : Int) (x5 : Int) (H : Heap) (locs : List Loc) (ls : Array Slot), K48 σ x3 x4 x5 → Hs D ct ad L φ N0 s.heap σ H locs → lv_has ls 6 [(0, .ref (ad 6 0)), (3, .int (iv x3)), (4, .int (iv x4)), (5, .int (iv x5))] → W p l e ({ frames := 3, cells := 0, slots := 0, locals := 70 } : Room) s m args below meth c H locs 0 0 (MQ below (Qv D ct ad L φ N0 Q) args s 0 0 (AA N0)) (F0 m 48 ls [])) (σ : St) (x3 : Int) (x5 : Int) (y0 : Int) (H : Heap) (locs : List Loc) (ls : Array Slot) (hw : wp_X6_plan_117 K48 Q σ x3 x5 y0) (h : Hs D ct ad L φ N0 s.heap σ H locs) (hl : lv_has ls 6 [(0, .ref (ad 6 0)), (3, .int (iv x3)), (5, .int (iv x5))]) : W p l e ({ frames := 3, cells := 0, slots := 0, locals := 70 } : Room) s m args below meth c H locs 0 0 (MQ below (Qv D ct ad L φ N0 Q) args s 0 0 (AA N0)) (F0 m 117 ls [.int (iv y0)]) := by
  have hF := X.2.2.2.2.2.2.2.2.1
  unfold wp_X6_plan_117 at hw
  refine lv_istore (lv' := [(4, .int (iv y0)), (0, .ref (ad 6 0)), (3, .int (iv x3)), (5, .int (iv x5))]) X.1 X.2.1 dX6_plan_117 hl (by decide) rfl (fun ls hl => ?_)
  exact lb_X6_plan_119 X hK48 σ x3 y0 x5 _ _ _ hw h (lv_sub hl [1, 2, 0, 3] rfl)
set_option maxRecDepth 100000 in
set_option maxHeartbeats 4000000 in
theorem lb_X6_plan_48 (X : Cx p s m meth c args cX6_plan 6 none RX6 D ct L φ N0) : ∀ (n : Nat) (σ : St) (x3 : Int) (x4 : Int) (x5 : Int) (H : Heap) (locs : List Loc) (ls : Array Slot), wp_X6_plan_48 Q n σ x3 x4 x5 → Hs D ct ad L φ N0 s.heap σ H locs → lv_has ls 6 [(0, .ref (ad 6 0)), (3, .int (iv x3)), (4, .int (iv x4)), (5, .int (iv x5))] → W p l e ({ frames := 3, cells := 0, slots := 0, locals := 70 } : Room) s m args below meth c H locs 0 0 (MQ below (Qv D ct ad L φ N0 Q) args s 0 0 (AA N0)) (F0 m 48 ls []) := by
  have hF := X.2.2.2.2.2.2.2.2.1
  intro n
  induction n with
  | zero => intro σ x3 x4 x5 H locs ls hw; exact hw.elim
  | succ n ih =>
    intro σ x3 x4 x5 H locs ls hw h hl
    unfold wp_X6_plan_48 at hw
    refine lv_iload X.1 X.2.1 dX6_plan_48 (lv_at hl 3 rfl) ?_
    refine lv_iload_n X.1 X.2.1 dX6_plan_50 rfl (lv_at hl 1 rfl) ?_
    obtain ⟨g_1, g_2, hwt, hwf⟩ := hw
    refine j_cmp_ge (tgt := 125) X g_1 g_2 dX6_plan_51 (by decide) (fun c_22 => ?_) (fun c_22 => ?_)
    · have hw := hwt c_22
      exact k_vr X h hw dX6_plan_125
    · have hw := hwf c_22
      refine lv_aload_n X.1 X.2.1 dX6_plan_54 rfl (lv_at hl 0 rfl) ?_
      refine r_getR (ci := 6) X inw_6 h (hF.1 6 rfl).1 rfl rfl 10 (by decide) kw_349 rfl ((hF.1 6 rfl).2 10) dX6_plan_55 ?_
      refine lv_iload X.1 X.2.1 dX6_plan_58 (lv_at hl 3 rfl) ?_
      refine j_bipush X dX6_plan_60 (by decide) ?_
      obtain ⟨g_3, g_4, hw⟩ := hw
      refine r_iast (n := 35) X h (hF.1 63 rfl).1 (fun _ => rfl) (by decide) g_3 g_4 rfl dX6_plan_62 (fun H locs h => ?_)
      obtain ⟨σ_5, eσ_5⟩ : ∃ z : St, z = st σ 63 0 (Int.toNat x5) (-2) := ⟨_, rfl⟩
      rw [← eσ_5] at h
      have hw := hw σ_5 eσ_5
      refine lv_iload X.1 X.2.1 dX6_plan_63 (lv_at hl 3 rfl) ?_
      refine lv_iload X.1 X.2.1 dX6_plan_65 (lv_at hl 2 rfl) ?_
      obtain ⟨g_6, g_7, hwt, hwf⟩ := hw
      refine j_cmp_ne (tgt := 119) X g_6 g_7 dX6_plan_67 (by decide) (fun c_21 => ?_) (fun c_21 => ?_)
      · have hw := hwt c_21
        exact lb_X6_plan_119 X ih σ_5 x3 x4 x5 _ _ _ hw h (lv_sub hl [0, 1, 2, 3] rfl)
      · have hw := hwf c_21
        refine lv_aload_n X.1 X.2.1 dX6_plan_70 rfl (lv_at hl 0 rfl) ?_
        refine r_getR (ci := 6) X inw_6 h (hF.1 6 rfl).1 rfl rfl 10 (by decide) kw_349 rfl ((hF.1 6 rfl).2 10) dX6_plan_71 ?_
        refine lv_iload X.1 X.2.1 dX6_plan_74 (lv_at hl 3 rfl) ?_
        refine lv_aload_n X.1 X.2.1 dX6_plan_76 rfl (lv_at hl 0 rfl) ?_
        refine r_getR (ci := 6) X inw_6 h (hF.1 6 rfl).1 rfl rfl 9 (by decide) kw_348 rfl ((hF.1 6 rfl).2 9) dX6_plan_77 ?_
        refine lv_iload X.1 X.2.1 dX6_plan_80 (lv_at hl 3 rfl) ?_
        obtain ⟨g_8, g_9, hw⟩ := hw
        refine r_iald (n := 35) X h (hF.1 62 rfl).1 rfl (by decide) g_8 g_9 dX6_plan_82 ?_
        obtain ⟨g_10, g_11, hw⟩ := hw
        refine r_iast (n := 35) X h (hF.1 63 rfl).1 (fun _ => rfl) (by decide) g_10 g_11 rfl dX6_plan_83 (fun H locs h => ?_)
        obtain ⟨σ_12, eσ_12⟩ : ∃ z : St, z = st σ_5 63 0 (Int.toNat x5) (σ_5 62 0 (Int.toNat x5)) := ⟨_, rfl⟩
        rw [← eσ_12] at h
        have hw := hw σ_12 eσ_12
        refine lv_aload_n X.1 X.2.1 dX6_plan_84 rfl (lv_at hl 0 rfl) ?_
        refine r_getR (ci := 6) X inw_6 h (hF.1 6 rfl).1 rfl rfl 9 (by decide) kw_348 rfl ((hF.1 6 rfl).2 9) dX6_plan_85 ?_
        refine lv_iload X.1 X.2.1 dX6_plan_88 (lv_at hl 3 rfl) ?_
        obtain ⟨g_13, g_14, hw⟩ := hw
        refine r_iald (n := 35) X h (hF.1 62 rfl).1 rfl (by decide) g_13 g_14 dX6_plan_90 ?_
        refine j_bipush X dX6_plan_91 (by decide) ?_
        obtain ⟨g_15, hwt, hwf⟩ := hw
        refine j_cmp_ne (tgt := 103) X g_15 ⟨by decide, by decide⟩ dX6_plan_93 (by decide) (fun c_20 => ?_) (fun c_20 => ?_)
        · have hw := hwt c_20
          refine lv_aload_n X.1 X.2.1 dX6_plan_103 rfl (lv_at hl 0 rfl) ?_
          refine lv_iload X.1 X.2.1 dX6_plan_104 (lv_at hl 3 rfl) ?_
          refine lv_aload_n X.1 X.2.1 dX6_plan_106 rfl (lv_at hl 0 rfl) ?_
          refine r_getR (ci := 6) X inw_6 h (hF.1 6 rfl).1 rfl rfl 9 (by decide) kw_348 rfl ((hF.1 6 rfl).2 9) dX6_plan_107 ?_
          refine lv_iload X.1 X.2.1 dX6_plan_110 (lv_at hl 3 rfl) ?_
          obtain ⟨g_16, g_17, hw⟩ := hw
          refine r_iald (n := 35) X h (hF.1 62 rfl).1 rfl (by decide) g_16 g_17 dX6_plan_112 ?_
          refine lv_iload_n X.1 X.2.1 dX6_plan_113 rfl (lv_at hl 1 rfl) ?_
          refine k_i h (r_V (C := RX6) (ci := 6) (As := [.int (iv x5), .int (iv (σ_12 62 0 (Int.toNat x5))), .int (iv x3)]) (rest := []) X h (c_X6_behind l D ct ad L φ N0 σ_12 x5 (σ_12 62 0 (Int.toNat x5)) x3 _ hw) rfl rfl ⟨Nat.le_of_ble_eq_true rfl, Nat.le_of_ble_eq_true rfl⟩ kw_1276 kw_1278 kw_42 kw_126 kw_1279 ⟨rfl, pd_X6_behind⟩ (hF.1 6 rfl).1 rfl rfl rfl hl.1 rfl (Nat.le_of_ble_eq_true rfl) ⟨Nat.le_of_ble_eq_true rfl, Nat.le_of_ble_eq_true rfl⟩ dX6_plan_114) (fun r_19 σ_18 H locs hw h => ?_)
          exact lb_X6_plan_117 X ih σ_18 x3 x5 r_19 _ _ _ hw h (lv_sub hl [0, 1, 3] rfl)
        · have hw := hwf c_20
          refine lv_iload X.1 X.2.1 dX6_plan_96 (lv_at hl 3 rfl) ?_
          refine j_iconst X dX6_plan_98 ?_
          refine j_iadd X dX6_plan_99 ?_
          refine lv_goto (tgt := 117) X.1 X.2.1 dX6_plan_100 (by decide) ?_
          exact lb_X6_plan_117 X ih σ_12 x3 x5 (x5 + 1) _ _ _ hw h (lv_sub hl [0, 1, 3] rfl)
set_option maxRecDepth 100000 in
set_option maxHeartbeats 4000000 in
theorem lb_X6_plan_42 (X : Cx p s m meth c args cX6_plan 6 none RX6 D ct L φ N0) (σ : St) (x3 : Int) (H : Heap) (locs : List Loc) (ls : Array Slot) (hw : wp_X6_plan_42 Q σ x3) (h : Hs D ct ad L φ N0 s.heap σ H locs) (hl : lv_has ls 6 [(0, .ref (ad 6 0)), (3, .int (iv x3))]) : W p l e ({ frames := 3, cells := 0, slots := 0, locals := 70 } : Room) s m args below meth c H locs 0 0 (MQ below (Qv D ct ad L φ N0 Q) args s 0 0 (AA N0)) (F0 m 42 ls []) := by
  have hF := X.2.2.2.2.2.2.2.2.1
  unfold wp_X6_plan_42 at hw
  refine j_iconst X dX6_plan_42 ?_
  refine lv_istore (lv' := [(4, .int (iv 0)), (0, .ref (ad 6 0)), (3, .int (iv x3))]) X.1 X.2.1 dX6_plan_43 hl (by decide) rfl (fun ls hl => ?_)
  refine j_iconst X dX6_plan_45 ?_
  refine lv_istore (lv' := [(5, .int (iv 0)), (4, .int (iv 0)), (0, .ref (ad 6 0)), (3, .int (iv x3))]) X.1 X.2.1 dX6_plan_46 hl (by decide) rfl (fun ls hl => ?_)
  exact hw.elim (fun n48 hw => lb_X6_plan_48 X n48 σ x3 0 0 _ _ _ hw h (lv_sub hl [2, 3, 1, 0] rfl))
set_option maxRecDepth 100000 in
set_option maxHeartbeats 4000000 in
theorem lb_X6_plan_22 (X : Cx p s m meth c args cX6_plan 6 none RX6 D ct L φ N0) {K42 : St → Int → Prop} (hK42 : ∀ (σ : St) (x3 : Int) (H : Heap) (locs : List Loc) (ls : Array Slot), K42 σ x3 → Hs D ct ad L φ N0 s.heap σ H locs → lv_has ls 6 [(0, .ref (ad 6 0)), (3, .int (iv x3))] → W p l e ({ frames := 3, cells := 0, slots := 0, locals := 70 } : Room) s m args below meth c H locs 0 0 (MQ below (Qv D ct ad L φ N0 Q) args s 0 0 (AA N0)) (F0 m 42 ls [])) : ∀ (n : Nat) (σ : St) (j1 : Nat) (x2 : Int) (x3 : Int) (x4 : Int) (H : Heap) (locs : List Loc) (ls : Array Slot), wp_X6_plan_22 K42 Q n σ j1 x2 x3 x4 → Hs D ct ad L φ N0 s.heap σ H locs → lv_has ls 6 [(0, .ref (ad 6 0)), (1, .ref (ad 4 j1)), (2, .int (iv x2)), (3, .int (iv x3)), (4, .int (iv x4))] → W p l e ({ frames := 3, cells := 0, slots := 0, locals := 70 } : Room) s m args below meth c H locs 0 0 (MQ below (Qv D ct ad L φ N0 Q) args s 0 0 (AA N0)) (F0 m 22 ls []) := by
  have hF := X.2.2.2.2.2.2.2.2.1
  intro n
  induction n with
  | zero => intro σ j1 x2 x3 x4 H locs ls hw; exact hw.elim
  | succ n ih =>
    intro σ j1 x2 x3 x4 H locs ls hw h hl
    unfold wp_X6_plan_22 at hw
    refine lv_iload X.1 X.2.1 dX6_plan_22 (lv_at hl 4 rfl) ?_
    obtain ⟨g_23, hwt, hwf⟩ := hw
    refine j_if_lt (tgt := 42) X g_23 dX6_plan_24 (by decide) (fun c_25 => ?_) (fun c_25 => ?_)
    · have hw := hwt c_25
      exact hK42 σ x3 _ _ _ hw h (lv_sub hl [0, 3] rfl)
    · have hw := hwf c_25
      refine lv_aload_n X.1 X.2.1 dX6_plan_27 rfl (lv_at hl 0 rfl) ?_
      refine lv_aload_n X.1 X.2.1 dX6_plan_28 rfl (lv_at hl 1 rfl) ?_
      refine lv_iload X.1 X.2.1 dX6_plan_29 (lv_at hl 4 rfl) ?_
      refine lv_iload_n X.1 X.2.1 dX6_plan_31 rfl (lv_at hl 3 rfl) ?_
      refine lv_iload_n X.1 X.2.1 dX6_plan_32 rfl (lv_at hl 2 rfl) ?_
      refine k_v h (r_V (C := RX6) (ci := 6) (As := [.ref (ad 4 j1), .int (iv x4), .int (iv x3), .int (iv x2)]) (rest := []) X h (c_X6_weigh l D ct ad L φ N0 σ j1 x4 x3 x2 _ hw) rfl rfl ⟨Nat.le_of_ble_eq_true rfl, Nat.le_of_ble_eq_true rfl⟩ kw_1264 kw_1266 kw_39 kw_126 kw_1267 ⟨rfl, pd_X6_weigh⟩ (hF.1 6 rfl).1 rfl rfl rfl hl.1 rfl (Nat.le_of_ble_eq_true rfl) ⟨Nat.le_of_ble_eq_true rfl, Nat.le_of_ble_eq_true rfl⟩ dX6_plan_33) (fun σ_24 H locs hw h => ?_)
      refine j_iinc (kk9 := 4) (lv' := [(4, .int (iv (x4 + (-1)))), (0, .ref (ad 6 0)), (1, .ref (ad 4 j1)), (2, .int (iv x2)), (3, .int (iv x3))]) X dX6_plan_36 hl rfl (by decide) rfl (fun ls hl => ?_)
      refine lv_goto (tgt := 22) X.1 X.2.1 dX6_plan_39 (by decide) ?_
      exact ih σ_24 j1 x2 x3 (x4 + (-1)) _ _ _ hw h (lv_sub hl [1, 2, 3, 4, 0] rfl)
theorem pd_X6_plan : yX6_plan.cls ≠ "java/lang/invoke/MethodHandle" ∧ yX6_plan.cls ≠ "java/lang/invoke/VarHandle" ∧ (parseMethodDescriptor yX6_plan.desc).map (fun d => d.parameters.length) = some 2 := by decide +kernel
set_option maxRecDepth 100000 in
set_option maxHeartbeats 4000000 in
theorem c_X6_plan (l : Launch) (D : va_G) (ct : Nat → ClassId) (ad : Nat → Nat → Nat) (L : List (Nat × Nat)) (φ : Nat → Nat → Nat → Bool) (N0 : Nat) (σ : St) (j1 : Nat) (x2 : Int) (Q : St → Prop) (hw : wp_X6_plan σ j1 x2 Q) : Met l yX6_plan (.code yX6_plan cX6_plan 6 none :: gw) ({ frames := 3, cells := 0, slots := 0, locals := 70 } : Room) (Pm D ct ad L φ N0 σ [.ref (ad 6 0), .ref (ad 4 j1), .int (iv x2)]) (Qv D ct ad L φ N0 Q) 0 0 (AA N0) := by
  refine m_of (by decide) (fun p e s m below meth c X hnm h => ?_)
  have hF := X.2.2.2.2.2.2.2.2.1
  have hl := lv_entry ([.ref (ad 6 0), .ref (ad 4 j1), .int (iv x2)]) (n := 6) (Nat.le_of_ble_eq_true rfl)
  rw [lg_entry_eq]
  generalize (lg_sl ([.ref (ad 6 0), .ref (ad 4 j1), .int (iv x2)]) ++ List.replicate (6 - (lg_sl ([.ref (ad 6 0), .ref (ad 4 j1), .int (iv x2)])).length) Slot.unset).toArray = ls at hl ⊢
  have hl : lv_has ls 6 [(0, .ref (ad 6 0)), (1, .ref (ad 4 j1)), (2, .int (iv x2))] := hl
  have h : Hs D ct ad L φ N0 s.heap σ s.heap [] := h
  unfold wp_X6_plan at hw
  refine lv_aload_n X.1 X.2.1 dX6_plan_0 rfl (lv_at hl 1 rfl) ?_
  obtain ⟨g_26, hw⟩ := hw
  refine r_getN (ci := 4) X inw_4 h (h.2.2.1 j1 g_26).1 rfl rfl 2 (by decide) kw_710 rfl dX6_plan_1 ?_
  refine j_bipush X dX6_plan_4 (by decide) ?_
  refine k_i h (r_S (As := [.int (iv (σ 4 j1 2)), .int (iv 34)]) (rest := []) X h (c_J9_min_7cf53 l D ct ad L φ N0 σ (σ 4 j1 2) 34 _ hw) rfl rfl ⟨Nat.le_of_ble_eq_true rfl, Nat.le_of_ble_eq_true rfl⟩ kw_1263 kw_918 kw_130 kw_919 pd_J9_min_7cf53 rfl hl.1 rfl (Nat.le_of_ble_eq_true rfl) ⟨Nat.le_of_ble_eq_true rfl, Nat.le_of_ble_eq_true rfl⟩ dX6_plan_6) (fun r_28 σ_27 H locs hw h => ?_)
  refine lv_istore_n (lv' := [(3, .int (iv r_28)), (0, .ref (ad 6 0)), (1, .ref (ad 4 j1)), (2, .int (iv x2))]) X.1 X.2.1 dX6_plan_9 rfl hl (by decide) rfl (fun ls hl => ?_)
  refine lv_aload_n X.1 X.2.1 dX6_plan_10 rfl (lv_at hl 1 rfl) ?_
  refine r_getR (ci := 6) X inw_6 h (hF.1 6 rfl).1 rfl rfl 8 (by decide) kw_346 rfl ((hF.1 6 rfl).2 8) dX6_plan_11 ?_
  refine lv_iload_n X.1 X.2.1 dX6_plan_14 rfl (lv_at hl 0 rfl) ?_
  refine j_iconst X dX6_plan_15 ?_
  obtain ⟨g_29, g_30, hw⟩ := hw
  refine r_iast (n := 35) X h (hF.1 61 rfl).1 (fun _ => rfl) (by decide) g_29 g_30 rfl dX6_plan_16 (fun H locs h => ?_)
  obtain ⟨σ_31, eσ_31⟩ : ∃ z : St, z = st σ_27 61 0 (Int.toNat r_28) 0 := ⟨_, rfl⟩
  rw [← eσ_31] at h
  have hw := hw σ_31 eσ_31
  refine lv_iload_n X.1 X.2.1 dX6_plan_17 rfl (lv_at hl 0 rfl) ?_
  refine j_iconst X dX6_plan_18 ?_
  refine j_isub X dX6_plan_19 ?_
  refine j_bind (fun v_32 ev_32 => ?_)
  have hw := hw v_32 ev_32
  refine lv_istore (lv' := [(4, .int (iv v_32)), (3, .int (iv r_28)), (0, .ref (ad 6 0)), (1, .ref (ad 4 j1)), (2, .int (iv x2))]) X.1 X.2.1 dX6_plan_20 hl (by decide) rfl (fun ls hl => ?_)
  exact hw.elim (fun n22 hw => lb_X6_plan_22 X (lb_X6_plan_42 X) n22 σ_31 j1 x2 r_28 v_32 _ _ _ hw h (lv_sub hl [2, 3, 4, 1, 0] rfl))
end
section
variable {p : Program} {l : Launch} {e : Env} {s : State} {m : MethodId} {args : Array Value} {below : List Frame} {meth : Method} {c : Code} {D : va_G} {ct : Nat → ClassId} {ad : Nat → Nat → Nat} {L : List (Nat × Nat)} {φ : Nat → Nat → Nat → Bool} {N0 : Nat}
variable {Q : St → Prop}
theorem pd_X6_handOver : yX6_handOver.cls ≠ "java/lang/invoke/MethodHandle" ∧ yX6_handOver.cls ≠ "java/lang/invoke/VarHandle" ∧ (parseMethodDescriptor yX6_handOver.desc).map (fun d => d.parameters.length) = some 2 := by decide +kernel
set_option maxRecDepth 100000 in
set_option maxHeartbeats 4000000 in
theorem c_X6_handOver (l : Launch) (D : va_G) (ct : Nat → ClassId) (ad : Nat → Nat → Nat) (L : List (Nat × Nat)) (φ : Nat → Nat → Nat → Bool) (N0 : Nat) (σ : St) (x1 : Int) (x2 : Int) (Q : St → Prop) (hw : wp_X6_handOver σ x1 x2 Q) : Met l yX6_handOver (.code yX6_handOver cX6_handOver 3 none :: gw) ({ frames := 0, cells := 0, slots := 0, locals := 0 } : Room) (Pm D ct ad L φ N0 σ [.ref (ad 6 0), .int (iv x1), .int (iv x2)]) (Qv D ct ad L φ N0 Q) 0 0 (AA N0) := by
  refine m_of (by decide) (fun p e s m below meth c X hnm h => ?_)
  have hF := X.2.2.2.2.2.2.2.2.1
  have hl := lv_entry ([.ref (ad 6 0), .int (iv x1), .int (iv x2)]) (n := 3) (Nat.le_of_ble_eq_true rfl)
  rw [lg_entry_eq]
  generalize (lg_sl ([.ref (ad 6 0), .int (iv x1), .int (iv x2)]) ++ List.replicate (3 - (lg_sl ([.ref (ad 6 0), .int (iv x1), .int (iv x2)])).length) Slot.unset).toArray = ls at hl ⊢
  have hl : lv_has ls 3 [(0, .ref (ad 6 0)), (1, .int (iv x1)), (2, .int (iv x2))] := hl
  have h : Hs D ct ad L φ N0 s.heap σ s.heap [] := h
  unfold wp_X6_handOver at hw
  refine lv_aload_n X.1 X.2.1 dX6_handOver_0 rfl (lv_at hl 0 rfl) ?_
  refine r_getR (ci := 6) X inw_6 h (hF.1 6 rfl).1 rfl rfl 2 (by decide) kw_335 rfl ((hF.1 6 rfl).2 2) dX6_handOver_1 ?_
  refine lv_iload_n X.1 X.2.1 dX6_handOver_4 rfl (lv_at hl 1 rfl) ?_
  obtain ⟨g_1, g_2, hw⟩ := hw
  refine r_iald (n := 30) X h (hF.1 57 rfl).1 rfl (by decide) g_1 g_2 dX6_handOver_5 ?_
  obtain ⟨g_3, hwt, hwf⟩ := hw
  refine j_if_ne (tgt := 20) X g_3 dX6_handOver_6 (by decide) (fun c_17 => ?_) (fun c_17 => ?_)
  · have hw := hwt c_17
    refine lv_aload_n X.1 X.2.1 dX6_handOver_20 rfl (lv_at hl 0 rfl) ?_
    refine r_getR (ci := 6) X inw_6 h (hF.1 6 rfl).1 rfl rfl 2 (by decide) kw_335 rfl ((hF.1 6 rfl).2 2) dX6_handOver_21 ?_
    refine lv_iload_n X.1 X.2.1 dX6_handOver_24 rfl (lv_at hl 1 rfl) ?_
    refine lv_dup2_11 X.1 X.2.1 dX6_handOver_25 rfl rfl ?_
    obtain ⟨g_4, g_5, hw⟩ := hw
    refine r_iald (n := 30) X h (hF.1 57 rfl).1 rfl (by decide) g_4 g_5 dX6_handOver_26 ?_
    refine j_iconst X dX6_handOver_27 ?_
    refine j_isub X dX6_handOver_28 ?_
    obtain ⟨g_6, g_7, hw⟩ := hw
    refine r_iast (n := 30) X h (hF.1 57 rfl).1 (fun _ => rfl) (by decide) g_6 g_7 rfl dX6_handOver_29 (fun H locs h => ?_)
    obtain ⟨σ_8, eσ_8⟩ : ∃ z : St, z = st σ 57 0 (Int.toNat x1) ((σ 57 0 (Int.toNat x1)) - 1) := ⟨_, rfl⟩
    rw [← eσ_8] at h
    have hw := hw σ_8 eσ_8
    refine lv_aload_n X.1 X.2.1 dX6_handOver_30 rfl (lv_at hl 0 rfl) ?_
    refine r_getR (ci := 6) X inw_6 h (hF.1 6 rfl).1 rfl rfl 2 (by decide) kw_335 rfl ((hF.1 6 rfl).2 2) dX6_handOver_31 ?_
    refine lv_iload_n X.1 X.2.1 dX6_handOver_34 rfl (lv_at hl 1 rfl) ?_
    obtain ⟨g_9, g_10, hw⟩ := hw
    refine r_iald (n := 30) X h (hF.1 57 rfl).1 rfl (by decide) g_9 g_10 dX6_handOver_35 ?_
    obtain ⟨g_11, hwt, hwf⟩ := hw
    refine j_if_ne (tgt := 46) X g_11 dX6_handOver_36 (by decide) (fun c_15 => ?_) (fun c_15 => ?_)
    · have hw := hwt c_15
      exact k_vr X h hw dX6_handOver_46
    · have hw := hwf c_15
      refine lv_aload_n X.1 X.2.1 dX6_handOver_39 rfl (lv_at hl 0 rfl) ?_
      refine r_getR (ci := 6) X inw_6 h (hF.1 6 rfl).1 rfl rfl 5 (by decide) kw_340 rfl ((hF.1 6 rfl).2 5) dX6_handOver_40 ?_
      refine lv_iload_n X.1 X.2.1 dX6_handOver_43 rfl (lv_at hl 1 rfl) ?_
      refine lv_iload_n X.1 X.2.1 dX6_handOver_44 rfl (lv_at hl 2 rfl) ?_
      obtain ⟨g_12, g_13, hw⟩ := hw
      refine r_iast (n := 30) X h (hF.1 60 rfl).1 (fun _ => rfl) (by decide) g_12 g_13 rfl dX6_handOver_45 (fun H locs h => ?_)
      obtain ⟨σ_14, eσ_14⟩ : ∃ z : St, z = st σ_8 60 0 (Int.toNat x1) x2 := ⟨_, rfl⟩
      rw [← eσ_14] at h
      have hw := hw σ_14 eσ_14
      exact k_vr X h hw dX6_handOver_46
  · have hw := hwf c_17
    refine lv_aload_n X.1 X.2.1 dX6_handOver_9 rfl (lv_at hl 0 rfl) ?_
    refine lv_dup X.1 X.2.1 dX6_handOver_10 rfl ?_
    refine r_get (ci := 6) X inw_6 h (hF.1 6 rfl).1 rfl rfl 7 (by decide) kw_344 rfl dX6_handOver_11 ?_
    refine j_iconst X dX6_handOver_14 ?_
    refine j_iadd X dX6_handOver_15 ?_
    refine r_put (ci := 6) X inw_6 tyX6 tyX6_ok nmX6 h (hF.1 6 rfl).1 rfl rfl 7 (by decide) kw_344 rfl rfl rfl (Nat.le_of_ble_eq_true rfl) rfl rfl dX6_handOver_16 (fun H locs h => ?_)
    obtain ⟨σ_16, eσ_16⟩ : ∃ z : St, z = st σ 6 0 7 ((σ 6 0 7) + 1) := ⟨_, rfl⟩
    rw [← eσ_16] at h
    have hw := hw σ_16 eσ_16
    exact k_vr X h hw dX6_handOver_19
end
section
variable {p : Program} {l : Launch} {e : Env} {s : State} {m : MethodId} {args : Array Value} {below : List Frame} {meth : Method} {c : Code} {D : va_G} {ct : Nat → ClassId} {ad : Nat → Nat → Nat} {L : List (Nat × Nat)} {φ : Nat → Nat → Nat → Bool} {N0 : Nat}
variable {Q : Int → St → Prop}
set_option maxRecDepth 100000 in
set_option maxHeartbeats 4000000 in
theorem lb_X6_deliver_53 (X : Cx p s m meth c args cX6_deliver 5 (some .int) RX6 D ct L φ N0) {K5 : St → Int → Int → Int → Int → Prop} (hK5 : ∀ (σ : St) (x1 : Int) (x2 : Int) (x3 : Int) (x4 : Int) (H : Heap) (locs : List Loc) (ls : Array Slot), K5 σ x1 x2 x3 x4 → Hs D ct ad L φ N0 s.heap σ H locs → lv_has ls 5 [(0, .ref (ad 6 0)), (1, .int (iv x1)), (2, .int (iv x2)), (3, .int (iv x3)), (4, .int (iv x4))] → W p l e ({ frames := 1, cells := 0, slots := 0, locals := 22 } : Room) s m args below meth c H locs 0 0 (MQ below (Qi D ct ad L φ N0 Q) args s 0 0 (AA N0)) (F0 m 5 ls [])) (σ : St) (x1 : Int) (x2 : Int) (x3 : Int) (x4 : Int) (H : Heap) (locs : List Loc) (ls : Array Slot) (hw : wp_X6_deliver_53 K5 Q σ x1 x2 x3 x4) (h : Hs D ct ad L φ N0 s.heap σ H locs) (hl : lv_has ls 5 [(0, .ref (ad 6 0)), (1, .int (iv x1)), (2, .int (iv x2)), (3, .int (iv x3)), (4, .int (iv x4))]) : W p l e ({ frames := 1, cells := 0, slots := 0, locals := 22 } : Room) s m args below meth c H locs 0 0 (MQ below (Qi D ct ad L φ N0 Q) args s 0 0 (AA N0)) (F0 m 53 ls []) := by
  have hF := X.2.2.2.2.2.2.2.2.1
  unfold wp_X6_deliver_53 at hw
  refine j_iinc (kk9 := 4) (lv' := [(4, .int (iv (x4 + 1))), (0, .ref (ad 6 0)), (1, .int (iv x1)), (2, .int (iv x2)), (3, .int (iv x3))]) X dX6_deliver_53 hl rfl (by decide) rfl (fun ls hl => ?_)
  refine lv_goto (tgt := 5) X.1 X.2.1 dX6_deliver_56 (by decide) ?_
  exact hK5 σ x1 x2 x3 (x4 + 1) _ _ _ hw h (lv_sub hl [1, 2, 3, 4, 0] rfl)
set_option maxRecDepth 100000 in
set_option maxHeartbeats 4000000 in
theorem lb_X6_deliver_5 (X : Cx p s m meth c args cX6_deliver 5 (some .int) RX6 D ct L φ N0) : ∀ (n : Nat) (σ : St) (x1 : Int) (x2 : Int) (x3 : Int) (x4 : Int) (H : Heap) (locs : List Loc) (ls : Array Slot), wp_X6_deliver_5 Q n σ x1 x2 x3 x4 → Hs D ct ad L φ N0 s.heap σ H locs → lv_has ls 5 [(0, .ref (ad 6 0)), (1, .int (iv x1)), (2, .int (iv x2)), (3, .int (iv x3)), (4, .int (iv x4))] → W p l e ({ frames := 1, cells := 0, slots := 0, locals := 22 } : Room) s m args below meth c H locs 0 0 (MQ below (Qi D ct ad L φ N0 Q) args s 0 0 (AA N0)) (F0 m 5 ls []) := by
  have hF := X.2.2.2.2.2.2.2.2.1
  intro n
  induction n with
  | zero => intro σ x1 x2 x3 x4 H locs ls hw; exact hw.elim
  | succ n ih =>
    intro σ x1 x2 x3 x4 H locs ls hw h hl
    unfold wp_X6_deliver_5 at hw
    refine lv_iload X.1 X.2.1 dX6_deliver_5 (lv_at hl 4 rfl) ?_
    refine lv_iload_n X.1 X.2.1 dX6_deliver_7 rfl (lv_at hl 1 rfl) ?_
    obtain ⟨g_1, g_2, hwt, hwf⟩ := hw
    refine j_cmp_ge (tgt := 59) X g_1 g_2 dX6_deliver_8 (by decide) (fun c_14 => ?_) (fun c_14 => ?_)
    · have hw := hwt c_14
      refine lv_iload_n X.1 X.2.1 dX6_deliver_59 rfl (lv_at hl 3 rfl) ?_
      exact k_ir X rfl h hw dX6_deliver_60
    · have hw := hwf c_14
      refine lv_iload X.1 X.2.1 dX6_deliver_11 (lv_at hl 4 rfl) ?_
      refine j_bipush X dX6_deliver_13 (by decide) ?_
      obtain ⟨g_3, hwt, hwf⟩ := hw
      refine j_cmp_ge (tgt := 59) X g_3 ⟨by decide, by decide⟩ dX6_deliver_15 (by decide) (fun c_13 => ?_) (fun c_13 => ?_)
      · have hw := hwt c_13
        refine lv_iload_n X.1 X.2.1 dX6_deliver_59 rfl (lv_at hl 3 rfl) ?_
        exact k_ir X rfl h hw dX6_deliver_60
      · have hw := hwf c_13
        refine lv_aload_n X.1 X.2.1 dX6_deliver_18 rfl (lv_at hl 0 rfl) ?_
        refine r_getR (ci := 6) X inw_6 h (hF.1 6 rfl).1 rfl rfl 10 (by decide) kw_349 rfl ((hF.1 6 rfl).2 10) dX6_deliver_19 ?_
        refine lv_iload X.1 X.2.1 dX6_deliver_22 (lv_at hl 4 rfl) ?_
        obtain ⟨g_4, g_5, hw⟩ := hw
        refine r_iald (n := 35) X h (hF.1 63 rfl).1 rfl (by decide) g_4 g_5 dX6_deliver_24 ?_
        refine j_iconst X dX6_deliver_25 ?_
        refine lv_aload_n X.1 X.2.1 dX6_deliver_26 rfl (lv_at hl 0 rfl) ?_
        refine r_get (ci := 6) X inw_6 h (hF.1 6 rfl).1 rfl rfl 6 (by decide) kw_342 rfl dX6_deliver_27 ?_
        refine j_iconst X dX6_deliver_30 ?_
        refine j_isub X dX6_deliver_31 ?_
        refine k_i h (r_SN (As := [.int (iv (σ 63 0 (Int.toNat x4))), .int (iv 0), .int (iv ((σ 6 0 6) - 1))]) (rest := []) X h (c_X11_within l D ct ad L φ N0 σ (σ 63 0 (Int.toNat x4)) 0 ((σ 6 0 6) - 1) _ hw) rfl rfl ⟨Nat.le_of_ble_eq_true rfl, Nat.le_of_ble_eq_true rfl⟩ kw_1292 kw_527 kw_120 kw_528 pd_X11_within rfl hl.1 rfl (Nat.le_of_ble_eq_true rfl) ⟨Nat.le_of_ble_eq_true rfl, Nat.le_of_ble_eq_true rfl⟩ dX6_deliver_32) (fun r_7 σ_6 H locs hw h => ?_)
        obtain ⟨g_8, hwt, hwf⟩ := hw
        refine j_if_eq (tgt := 53) X g_8 dX6_deliver_35 (by decide) (fun c_12 => ?_) (fun c_12 => ?_)
        · have hw := hwt c_12
          exact lb_X6_deliver_53 X ih σ_6 x1 x2 x3 x4 _ _ _ hw h (lv_sub hl [0, 1, 2, 3, 4] rfl)
        · have hw := hwf c_12
          refine j_iinc (kk9 := 3) (lv' := [(3, .int (iv (x3 + 1))), (0, .ref (ad 6 0)), (1, .int (iv x1)), (2, .int (iv x2)), (4, .int (iv x4))]) X dX6_deliver_38 hl rfl (by decide) rfl (fun ls hl => ?_)
          refine lv_aload_n X.1 X.2.1 dX6_deliver_41 rfl (lv_at hl 1 rfl) ?_
          refine lv_aload_n X.1 X.2.1 dX6_deliver_42 rfl (lv_at hl 1 rfl) ?_
          refine r_getR (ci := 6) X inw_6 h (hF.1 6 rfl).1 rfl rfl 10 (by decide) kw_349 rfl ((hF.1 6 rfl).2 10) dX6_deliver_43 ?_
          refine lv_iload X.1 X.2.1 dX6_deliver_46 (lv_at hl 4 rfl) ?_
          obtain ⟨g_9, g_10, hw⟩ := hw
          refine r_iald (n := 35) X h (hF.1 63 rfl).1 rfl (by decide) g_9 g_10 dX6_deliver_48 ?_
          refine lv_iload_n X.1 X.2.1 dX6_deliver_49 rfl (lv_at hl 3 rfl) ?_
          refine k_v h (r_V (C := RX6) (ci := 6) (As := [.int (iv (σ_6 63 0 (Int.toNat x4))), .int (iv x2)]) (rest := []) X h (c_X6_handOver l D ct ad L φ N0 σ_6 (σ_6 63 0 (Int.toNat x4)) x2 _ hw) rfl rfl ⟨Nat.le_of_ble_eq_true rfl, Nat.le_of_ble_eq_true rfl⟩ kw_1293 kw_1295 kw_43 kw_126 kw_1296 ⟨rfl, pd_X6_handOver⟩ (hF.1 6 rfl).1 rfl rfl rfl hl.1 rfl (Nat.le_of_ble_eq_true rfl) ⟨Nat.le_of_ble_eq_true rfl, Nat.le_of_ble_eq_true rfl⟩ dX6_deliver_50) (fun σ_11 H locs hw h => ?_)
          exact lb_X6_deliver_53 X ih σ_11 x1 x2 (x3 + 1) x4 _ _ _ hw h (lv_sub hl [1, 2, 3, 0, 4] rfl)
theorem pd_X6_deliver : yX6_deliver.cls ≠ "java/lang/invoke/MethodHandle" ∧ yX6_deliver.cls ≠ "java/lang/invoke/VarHandle" ∧ (parseMethodDescriptor yX6_deliver.desc).map (fun d => d.parameters.length) = some 2 := by decide +kernel
set_option maxRecDepth 100000 in
set_option maxHeartbeats 4000000 in
theorem c_X6_deliver (l : Launch) (D : va_G) (ct : Nat → ClassId) (ad : Nat → Nat → Nat) (L : List (Nat × Nat)) (φ : Nat → Nat → Nat → Bool) (N0 : Nat) (σ : St) (x1 : Int) (x2 : Int) (Q : Int → St → Prop) (hw : wp_X6_deliver σ x1 x2 Q) : Met l yX6_deliver (.code yX6_deliver cX6_deliver 5 (some .int) :: gw) ({ frames := 1, cells := 0, slots := 0, locals := 22 } : Room) (Pm D ct ad L φ N0 σ [.ref (ad 6 0), .int (iv x1), .int (iv x2)]) (Qi D ct ad L φ N0 Q) 0 0 (AA N0) := by
  refine m_of (by decide) (fun p e s m below meth c X hnm h => ?_)
  have hF := X.2.2.2.2.2.2.2.2.1
  have hl := lv_entry ([.ref (ad 6 0), .int (iv x1), .int (iv x2)]) (n := 5) (Nat.le_of_ble_eq_true rfl)
  rw [lg_entry_eq]
  generalize (lg_sl ([.ref (ad 6 0), .int (iv x1), .int (iv x2)]) ++ List.replicate (5 - (lg_sl ([.ref (ad 6 0), .int (iv x1), .int (iv x2)])).length) Slot.unset).toArray = ls at hl ⊢
  have hl : lv_has ls 5 [(0, .ref (ad 6 0)), (1, .int (iv x1)), (2, .int (iv x2))] := hl
  have h : Hs D ct ad L φ N0 s.heap σ s.heap [] := h
  unfold wp_X6_deliver at hw
  refine j_iconst X dX6_deliver_0 ?_
  refine lv_istore_n (lv' := [(3, .int (iv 0)), (0, .ref (ad 6 0)), (1, .int (iv x1)), (2, .int (iv x2))]) X.1 X.2.1 dX6_deliver_1 rfl hl (by decide) rfl (fun ls hl => ?_)
  refine j_iconst X dX6_deliver_2 ?_
  refine lv_istore (lv' := [(4, .int (iv 0)), (3, .int (iv 0)), (0, .ref (ad 6 0)), (1, .int (iv x1)), (2, .int (iv x2))]) X.1 X.2.1 dX6_deliver_3 hl (by decide) rfl (fun ls hl => ?_)
  exact hw.elim (fun n5 hw => lb_X6_deliver_5 X n5 σ x1 x2 0 0 _ _ _ hw h (lv_sub hl [2, 3, 4, 1, 0] rfl))
end
section
variable {p : Program} {l : Launch} {e : Env} {s : State} {m : MethodId} {args : Array Value} {below : List Frame} {meth : Method} {c : Code} {D : va_G} {ct : Nat → ClassId} {ad : Nat → Nat → Nat} {L : List (Nat × Nat)} {φ : Nat → Nat → Nat → Bool} {N0 : Nat}
variable {Q : Int → St → Prop}
set_option maxRecDepth 100000 in
set_option maxHeartbeats 4000000 in
theorem lb_X7_tellingFor_44 (X : Cx p s m meth c args cX7_tellingFor 4 (some .int) RX7 D ct L φ N0) {K4 : St → Int → Int → Int → Prop} (hK4 : ∀ (σ : St) (x1 : Int) (x2 : Int) (x3 : Int) (H : Heap) (locs : List Loc) (ls : Array Slot), K4 σ x1 x2 x3 → Hs D ct ad L φ N0 s.heap σ H locs → lv_has ls 4 [(0, .ref (ad 7 0)), (1, .int (iv x1)), (2, .int (iv x2)), (3, .int (iv x3))] → W p l e ({ frames := 0, cells := 0, slots := 0, locals := 0 } : Room) s m args below meth c H locs 0 0 (MQ below (Qi D ct ad L φ N0 Q) args s 0 0 (AA N0)) (F0 m 4 ls [])) (σ : St) (x1 : Int) (x2 : Int) (x3 : Int) (H : Heap) (locs : List Loc) (ls : Array Slot) (hw : wp_X7_tellingFor_44 K4 Q σ x1 x2 x3) (h : Hs D ct ad L φ N0 s.heap σ H locs) (hl : lv_has ls 4 [(0, .ref (ad 7 0)), (1, .int (iv x1)), (2, .int (iv x2)), (3, .int (iv x3))]) : W p l e ({ frames := 0, cells := 0, slots := 0, locals := 0 } : Room) s m args below meth c H locs 0 0 (MQ below (Qi D ct ad L φ N0 Q) args s 0 0 (AA N0)) (F0 m 44 ls []) := by
  have hF := X.2.2.2.2.2.2.2.2.1
  unfold wp_X7_tellingFor_44 at hw
  refine j_iinc (kk9 := 3) (lv' := [(3, .int (iv (x3 + 1))), (0, .ref (ad 7 0)), (1, .int (iv x1)), (2, .int (iv x2))]) X dX7_tellingFor_44 hl rfl (by decide) rfl (fun ls hl => ?_)
  refine lv_goto (tgt := 4) X.1 X.2.1 dX7_tellingFor_47 (by decide) ?_
  exact hK4 σ x1 x2 (x3 + 1) _ _ _ hw h (lv_sub hl [1, 2, 3, 0] rfl)
set_option maxRecDepth 100000 in
set_option maxHeartbeats 4000000 in
theorem lb_X7_tellingFor_42 (X : Cx p s m meth c args cX7_tellingFor 4 (some .int) RX7 D ct L φ N0) {K4 : St → Int → Int → Int → Prop} (hK4 : ∀ (σ : St) (x1 : Int) (x2 : Int) (x3 : Int) (H : Heap) (locs : List Loc) (ls : Array Slot), K4 σ x1 x2 x3 → Hs D ct ad L φ N0 s.heap σ H locs → lv_has ls 4 [(0, .ref (ad 7 0)), (1, .int (iv x1)), (2, .int (iv x2)), (3, .int (iv x3))] → W p l e ({ frames := 0, cells := 0, slots := 0, locals := 0 } : Room) s m args below meth c H locs 0 0 (MQ below (Qi D ct ad L φ N0 Q) args s 0 0 (AA N0)) (F0 m 4 ls [])) (σ : St) (x1 : Int) (x3 : Int) (H : Heap) (locs : List Loc) (ls : Array Slot) (hw : wp_X7_tellingFor_42 K4 Q σ x1 x3) (h : Hs D ct ad L φ N0 s.heap σ H locs) (hl : lv_has ls 4 [(0, .ref (ad 7 0)), (1, .int (iv x1)), (3, .int (iv x3))]) : W p l e ({ frames := 0, cells := 0, slots := 0, locals := 0 } : Room) s m args below meth c H locs 0 0 (MQ below (Qi D ct ad L φ N0 Q) args s 0 0 (AA N0)) (F0 m 42 ls []) := by
  have hF := X.2.2.2.2.2.2.2.2.1
  unfold wp_X7_tellingFor_42 at hw
  refine lv_iload_n X.1 X.2.1 dX7_tellingFor_42 rfl (lv_at hl 2 rfl) ?_
  refine lv_istore_n (lv' := [(2, .int (iv x3)), (0, .ref (ad 7 0)), (1, .int (iv x1)), (3, .int (iv x3))]) X.1 X.2.1 dX7_tellingFor_43 rfl hl (by decide) rfl (fun ls hl => ?_)
  exact lb_X7_tellingFor_44 X hK4 σ x1 x3 x3 _ _ _ hw h (lv_sub hl [1, 2, 0, 3] rfl)
set_option maxRecDepth 100000 in
set_option maxHeartbeats 4000000 in
theorem lb_X7_tellingFor_4 (X : Cx p s m meth c args cX7_tellingFor 4 (some .int) RX7 D ct L φ N0) : ∀ (n : Nat) (σ : St) (x1 : Int) (x2 : Int) (x3 : Int) (H : Heap) (locs : List Loc) (ls : Array Slot), wp_X7_tellingFor_4 Q n σ x1 x2 x3 → Hs D ct ad L φ N0 s.heap σ H locs → lv_has ls 4 [(0, .ref (ad 7 0)), (1, .int (iv x1)), (2, .int (iv x2)), (3, .int (iv x3))] → W p l e ({ frames := 0, cells := 0, slots := 0, locals := 0 } : Room) s m args below meth c H locs 0 0 (MQ below (Qi D ct ad L φ N0 Q) args s 0 0 (AA N0)) (F0 m 4 ls []) := by
  have hF := X.2.2.2.2.2.2.2.2.1
  intro n
  induction n with
  | zero => intro σ x1 x2 x3 H locs ls hw; exact hw.elim
  | succ n ih =>
    intro σ x1 x2 x3 H locs ls hw h hl
    unfold wp_X7_tellingFor_4 at hw
    refine lv_iload_n X.1 X.2.1 dX7_tellingFor_4 rfl (lv_at hl 3 rfl) ?_
    refine lv_aload_n X.1 X.2.1 dX7_tellingFor_5 rfl (lv_at hl 0 rfl) ?_
    refine r_get (ci := 7) X inw_7 h (hF.1 7 rfl).1 rfl rfl 2 (by decide) kw_161 rfl dX7_tellingFor_6 ?_
    obtain ⟨g_1, g_2, hwt, hwf⟩ := hw
    refine j_cmp_ge (tgt := 50) X g_1 g_2 dX7_tellingFor_9 (by decide) (fun c_17 => ?_) (fun c_17 => ?_)
    · have hw := hwt c_17
      refine lv_iload_n X.1 X.2.1 dX7_tellingFor_50 rfl (lv_at hl 2 rfl) ?_
      exact k_ir X rfl h hw dX7_tellingFor_51
    · have hw := hwf c_17
      refine lv_aload_n X.1 X.2.1 dX7_tellingFor_12 rfl (lv_at hl 0 rfl) ?_
      refine r_getR (ci := 7) X inw_7 h (hF.1 7 rfl).1 rfl rfl 0 (by decide) kw_159 rfl ((hF.1 7 rfl).2 0) dX7_tellingFor_13 ?_
      refine lv_iload_n X.1 X.2.1 dX7_tellingFor_16 rfl (lv_at hl 3 rfl) ?_
      obtain ⟨g_3, g_4, hw⟩ := hw
      refine r_iald (n := 200) X h (hF.1 64 rfl).1 rfl (by decide) g_3 g_4 dX7_tellingFor_17 ?_
      refine lv_iload_n X.1 X.2.1 dX7_tellingFor_18 rfl (lv_at hl 1 rfl) ?_
      obtain ⟨g_5, g_6, hwt, hwf⟩ := hw
      refine j_cmp_gt (tgt := 44) X g_5 g_6 dX7_tellingFor_19 (by decide) (fun c_16 => ?_) (fun c_16 => ?_)
      · have hw := hwt c_16
        exact lb_X7_tellingFor_44 X ih σ x1 x2 x3 _ _ _ hw h (lv_sub hl [0, 1, 2, 3] rfl)
      · have hw := hwf c_16
        refine lv_iload_n X.1 X.2.1 dX7_tellingFor_22 rfl (lv_at hl 2 rfl) ?_
        refine j_iconst X dX7_tellingFor_23 ?_
        obtain ⟨g_7, hwt, hwf⟩ := hw
        refine j_cmp_eq (tgt := 42) X g_7 ⟨by decide, by decide⟩ dX7_tellingFor_24 (by decide) (fun c_15 => ?_) (fun c_15 => ?_)
        · have hw := hwt c_15
          exact lb_X7_tellingFor_42 X ih σ x1 x3 _ _ _ hw h (lv_sub hl [0, 1, 3] rfl)
        · have hw := hwf c_15
          refine lv_aload_n X.1 X.2.1 dX7_tellingFor_27 rfl (lv_at hl 0 rfl) ?_
          refine r_getR (ci := 7) X inw_7 h (hF.1 7 rfl).1 rfl rfl 0 (by decide) kw_159 rfl ((hF.1 7 rfl).2 0) dX7_tellingFor_28 ?_
          refine lv_iload_n X.1 X.2.1 dX7_tellingFor_31 rfl (lv_at hl 3 rfl) ?_
          obtain ⟨g_8, g_9, hw⟩ := hw
          refine r_iald (n := 200) X h (hF.1 64 rfl).1 rfl (by decide) g_8 g_9 dX7_tellingFor_32 ?_
          refine lv_aload_n X.1 X.2.1 dX7_tellingFor_33 rfl (lv_at hl 0 rfl) ?_
          refine r_getR (ci := 7) X inw_7 h (hF.1 7 rfl).1 rfl rfl 0 (by decide) kw_159 rfl ((hF.1 7 rfl).2 0) dX7_tellingFor_34 ?_
          refine lv_iload_n X.1 X.2.1 dX7_tellingFor_37 rfl (lv_at hl 2 rfl) ?_
          obtain ⟨g_10, g_11, hw⟩ := hw
          refine r_iald (n := 200) X h (hF.1 64 rfl).1 rfl (by decide) g_10 g_11 dX7_tellingFor_38 ?_
          obtain ⟨g_12, g_13, hwt, hwf⟩ := hw
          refine j_cmp_lt (tgt := 44) X g_12 g_13 dX7_tellingFor_39 (by decide) (fun c_14 => ?_) (fun c_14 => ?_)
          · have hw := hwt c_14
            exact lb_X7_tellingFor_44 X ih σ x1 x2 x3 _ _ _ hw h (lv_sub hl [0, 1, 2, 3] rfl)
          · have hw := hwf c_14
            exact lb_X7_tellingFor_42 X ih σ x1 x3 _ _ _ hw h (lv_sub hl [0, 1, 3] rfl)
theorem pd_X7_tellingFor : yX7_tellingFor.cls ≠ "java/lang/invoke/MethodHandle" ∧ yX7_tellingFor.cls ≠ "java/lang/invoke/VarHandle" ∧ (parseMethodDescriptor yX7_tellingFor.desc).map (fun d => d.parameters.length) = some 1 := by decide +kernel
set_option maxRecDepth 100000 in
set_option maxHeartbeats 4000000 in
theorem c_X7_tellingFor (l : Launch) (D : va_G) (ct : Nat → ClassId) (ad : Nat → Nat → Nat) (L : List (Nat × Nat)) (φ : Nat → Nat → Nat → Bool) (N0 : Nat) (σ : St) (x1 : Int) (Q : Int → St → Prop) (hw : wp_X7_tellingFor σ x1 Q) : Met l yX7_tellingFor (.code yX7_tellingFor cX7_tellingFor 4 (some .int) :: gw) ({ frames := 0, cells := 0, slots := 0, locals := 0 } : Room) (Pm D ct ad L φ N0 σ [.ref (ad 7 0), .int (iv x1)]) (Qi D ct ad L φ N0 Q) 0 0 (AA N0) := by
  refine m_of (by decide) (fun p e s m below meth c X hnm h => ?_)
  have hF := X.2.2.2.2.2.2.2.2.1
  have hl := lv_entry ([.ref (ad 7 0), .int (iv x1)]) (n := 4) (Nat.le_of_ble_eq_true rfl)
  rw [lg_entry_eq]
  generalize (lg_sl ([.ref (ad 7 0), .int (iv x1)]) ++ List.replicate (4 - (lg_sl ([.ref (ad 7 0), .int (iv x1)])).length) Slot.unset).toArray = ls at hl ⊢
  have hl : lv_has ls 4 [(0, .ref (ad 7 0)), (1, .int (iv x1))] := hl
  have h : Hs D ct ad L φ N0 s.heap σ s.heap [] := h
  unfold wp_X7_tellingFor at hw
  refine j_iconst X dX7_tellingFor_0 ?_
  refine lv_istore_n (lv' := [(2, .int (iv (-1))), (0, .ref (ad 7 0)), (1, .int (iv x1))]) X.1 X.2.1 dX7_tellingFor_1 rfl hl (by decide) rfl (fun ls hl => ?_)
  refine j_iconst X dX7_tellingFor_2 ?_
  refine lv_istore_n (lv' := [(3, .int (iv 0)), (2, .int (iv (-1))), (0, .ref (ad 7 0)), (1, .int (iv x1))]) X.1 X.2.1 dX7_tellingFor_3 rfl hl (by decide) rfl (fun ls hl => ?_)
  exact hw.elim (fun n4 hw => lb_X7_tellingFor_4 X n4 σ x1 (-1) 0 _ _ _ hw h (lv_sub hl [2, 3, 1, 0] rfl))
end
section
variable {p : Program} {l : Launch} {e : Env} {s : State} {m : MethodId} {args : Array Value} {below : List Frame} {meth : Method} {c : Code} {D : va_G} {ct : Nat → ClassId} {ad : Nat → Nat → Nat} {L : List (Nat × Nat)} {φ : Nat → Nat → Nat → Bool} {N0 : Nat}
variable {Q : Int → St → Prop}
theorem pd_X7_tell : yX7_tell.cls ≠ "java/lang/invoke/MethodHandle" ∧ yX7_tell.cls ≠ "java/lang/invoke/VarHandle" ∧ (parseMethodDescriptor yX7_tell.desc).map (fun d => d.parameters.length) = some 4 := by decide +kernel
set_option maxRecDepth 100000 in
set_option maxHeartbeats 4000000 in
theorem c_X7_tell (l : Launch) (D : va_G) (ct : Nat → ClassId) (ad : Nat → Nat → Nat) (L : List (Nat × Nat)) (φ : Nat → Nat → Nat → Bool) (N0 : Nat) (σ : St) (x1 : Int) (x2 : Int) (x3 : Int) (x4 : Int) (Q : Int → St → Prop) (hw : wp_X7_tell σ x1 x2 x3 x4 Q) : Met l yX7_tell (.code yX7_tell cX7_tell 5 (some .boolean) :: gw) ({ frames := 1, cells := 0, slots := 0, locals := 23 } : Room) (Pm D ct ad L φ N0 σ [.ref (ad 7 0), .int (iv x1), .int (iv x2), .int (iv x3), .int (iv x4)]) (Qi D ct ad L φ N0 Q) 0 0 (AA N0) := by
  refine m_of (by decide) (fun p e s m below meth c X hnm h => ?_)
  have hF := X.2.2.2.2.2.2.2.2.1
  have hl := lv_entry ([.ref (ad 7 0), .int (iv x1), .int (iv x2), .int (iv x3), .int (iv x4)]) (n := 5) (Nat.le_of_ble_eq_true rfl)
  rw [lg_entry_eq]
  generalize (lg_sl ([.ref (ad 7 0), .int (iv x1), .int (iv x2), .int (iv x3), .int (iv x4)]) ++ List.replicate (5 - (lg_sl ([.ref (ad 7 0), .int (iv x1), .int (iv x2), .int (iv x3), .int (iv x4)])).length) Slot.unset).toArray = ls at hl ⊢
  have hl : lv_has ls 5 [(0, .ref (ad 7 0)), (1, .int (iv x1)), (2, .int (iv x2)), (3, .int (iv x3)), (4, .int (iv x4))] := hl
  have h : Hs D ct ad L φ N0 s.heap σ s.heap [] := h
  unfold wp_X7_tell at hw
  refine lv_iload_n X.1 X.2.1 dX7_tell_0 rfl (lv_at hl 1 rfl) ?_
  refine lv_aload_n X.1 X.2.1 dX7_tell_1 rfl (lv_at hl 0 rfl) ?_
  refine r_get (ci := 7) X inw_7 h (hF.1 7 rfl).1 rfl rfl 3 (by decide) kw_162 rfl dX7_tell_2 ?_
  refine j_sipush X dX7_tell_5 (by decide) ?_
  refine k_i h (r_SN (As := [.int (iv x1), .int (iv (σ 7 0 3)), .int (iv 3999)]) (rest := []) X h (c_X11_within l D ct ad L φ N0 σ x1 (σ 7 0 3) 3999 _ hw) rfl rfl ⟨Nat.le_of_ble_eq_true rfl, Nat.le_of_ble_eq_true rfl⟩ kw_555 kw_527 kw_120 kw_528 pd_X11_within rfl hl.1 rfl (Nat.le_of_ble_eq_true rfl) ⟨Nat.le_of_ble_eq_true rfl, Nat.le_of_ble_eq_true rfl⟩ dX7_tell_8) (fun r_2 σ_1 H locs hw h => ?_)
  obtain ⟨g_3, hwt, hwf⟩ := hw
  refine j_if_eq (tgt := 24) X g_3 dX7_tell_11 (by decide) (fun c_34 => ?_) (fun c_34 => ?_)
  · have hw := hwt c_34
    refine j_iconst X dX7_tell_24 ?_
    exact k_ir X rfl h hw dX7_tell_25
  · have hw := hwf c_34
    refine lv_aload_n X.1 X.2.1 dX7_tell_14 rfl (lv_at hl 0 rfl) ?_
    refine r_get (ci := 7) X inw_7 h (hF.1 7 rfl).1 rfl rfl 2 (by decide) kw_161 rfl dX7_tell_15 ?_
    refine j_sipush X dX7_tell_18 (by decide) ?_
    obtain ⟨g_4, hwt, hwf⟩ := hw
    refine j_cmp_lt (tgt := 26) X g_4 ⟨by decide, by decide⟩ dX7_tell_21 (by decide) (fun c_33 => ?_) (fun c_33 => ?_)
    · have hw := hwt c_33
      refine lv_iload_n X.1 X.2.1 dX7_tell_26 rfl (lv_at hl 2 rfl) ?_
      refine j_iconst X dX7_tell_27 ?_
      refine j_bipush X dX7_tell_28 (by decide) ?_
      refine k_i h (r_SN (As := [.int (iv x2), .int (iv 0), .int (iv 9)]) (rest := []) X h (c_X11_within l D ct ad L φ N0 σ_1 x2 0 9 _ hw) rfl rfl ⟨Nat.le_of_ble_eq_true rfl, Nat.le_of_ble_eq_true rfl⟩ kw_555 kw_527 kw_120 kw_528 pd_X11_within rfl hl.1 rfl (Nat.le_of_ble_eq_true rfl) ⟨Nat.le_of_ble_eq_true rfl, Nat.le_of_ble_eq_true rfl⟩ dX7_tell_30) (fun r_6 σ_5 H locs hw h => ?_)
      obtain ⟨g_7, hwt, hwf⟩ := hw
      refine j_if_eq (tgt := 57) X g_7 dX7_tell_33 (by decide) (fun c_32 => ?_) (fun c_32 => ?_)
      · have hw := hwt c_32
        refine j_iconst X dX7_tell_57 ?_
        exact k_ir X rfl h hw dX7_tell_58
      · have hw := hwf c_32
        refine lv_iload_n X.1 X.2.1 dX7_tell_36 rfl (lv_at hl 3 rfl) ?_
        refine j_iconst X dX7_tell_37 ?_
        refine j_bipush X dX7_tell_38 (by decide) ?_
        refine k_i h (r_SN (As := [.int (iv x3), .int (iv 0), .int (iv 9)]) (rest := []) X h (c_X11_within l D ct ad L φ N0 σ_5 x3 0 9 _ hw) rfl rfl ⟨Nat.le_of_ble_eq_true rfl, Nat.le_of_ble_eq_true rfl⟩ kw_555 kw_527 kw_120 kw_528 pd_X11_within rfl hl.1 rfl (Nat.le_of_ble_eq_true rfl) ⟨Nat.le_of_ble_eq_true rfl, Nat.le_of_ble_eq_true rfl⟩ dX7_tell_40) (fun r_9 σ_8 H locs hw h => ?_)
        obtain ⟨g_10, hwt, hwf⟩ := hw
        refine j_if_eq (tgt := 57) X g_10 dX7_tell_43 (by decide) (fun c_31 => ?_) (fun c_31 => ?_)
        · have hw := hwt c_31
          refine j_iconst X dX7_tell_57 ?_
          exact k_ir X rfl h hw dX7_tell_58
        · have hw := hwf c_31
          refine lv_iload X.1 X.2.1 dX7_tell_46 (lv_at hl 4 rfl) ?_
          refine j_iconst X dX7_tell_48 ?_
          refine j_bipush X dX7_tell_49 (by decide) ?_
          refine k_i h (r_SN (As := [.int (iv x4), .int (iv 0), .int (iv 9)]) (rest := []) X h (c_X11_within l D ct ad L φ N0 σ_8 x4 0 9 _ hw) rfl rfl ⟨Nat.le_of_ble_eq_true rfl, Nat.le_of_ble_eq_true rfl⟩ kw_555 kw_527 kw_120 kw_528 pd_X11_within rfl hl.1 rfl (Nat.le_of_ble_eq_true rfl) ⟨Nat.le_of_ble_eq_true rfl, Nat.le_of_ble_eq_true rfl⟩ dX7_tell_51) (fun r_12 σ_11 H locs hw h => ?_)
          obtain ⟨g_13, hwt, hwf⟩ := hw
          refine j_if_ne (tgt := 59) X g_13 dX7_tell_54 (by decide) (fun c_30 => ?_) (fun c_30 => ?_)
          · have hw := hwt c_30
            refine lv_aload_n X.1 X.2.1 dX7_tell_59 rfl (lv_at hl 0 rfl) ?_
            refine r_getR (ci := 7) X inw_7 h (hF.1 7 rfl).1 rfl rfl 0 (by decide) kw_159 rfl ((hF.1 7 rfl).2 0) dX7_tell_60 ?_
            refine lv_aload_n X.1 X.2.1 dX7_tell_63 rfl (lv_at hl 0 rfl) ?_
            refine r_get (ci := 7) X inw_7 h (hF.1 7 rfl).1 rfl rfl 2 (by decide) kw_161 rfl dX7_tell_64 ?_
            refine lv_iload_n X.1 X.2.1 dX7_tell_67 rfl (lv_at hl 1 rfl) ?_
            obtain ⟨g_14, g_15, hw⟩ := hw
            refine r_iast (n := 200) X h (hF.1 64 rfl).1 (fun _ => rfl) (by decide) g_14 g_15 rfl dX7_tell_68 (fun H locs h => ?_)
            obtain ⟨σ_16, eσ_16⟩ : ∃ z : St, z = st σ_11 64 0 (Int.toNat (σ_11 7 0 2)) x1 := ⟨_, rfl⟩
            rw [← eσ_16] at h
            have hw := hw σ_16 eσ_16
            refine lv_aload_n X.1 X.2.1 dX7_tell_69 rfl (lv_at hl 0 rfl) ?_
            refine r_getR (ci := 7) X inw_7 h (hF.1 7 rfl).1 rfl rfl 1 (by decide) kw_160 rfl ((hF.1 7 rfl).2 1) dX7_tell_70 ?_
            refine lv_aload_n X.1 X.2.1 dX7_tell_73 rfl (lv_at hl 0 rfl) ?_
            refine r_get (ci := 7) X inw_7 h (hF.1 7 rfl).1 rfl rfl 2 (by decide) kw_161 rfl dX7_tell_74 ?_
            refine j_iconst X dX7_tell_77 ?_
            refine j_imul X dX7_tell_78 ?_
            refine j_iconst X dX7_tell_79 ?_
            refine j_iadd X dX7_tell_80 ?_
            refine lv_iload_n X.1 X.2.1 dX7_tell_81 rfl (lv_at hl 2 rfl) ?_
            obtain ⟨g_17, g_18, hw⟩ := hw
            refine r_iast (n := 600) X h (hF.1 65 rfl).1 (fun _ => rfl) (by decide) g_17 g_18 rfl dX7_tell_82 (fun H locs h => ?_)
            obtain ⟨σ_19, eσ_19⟩ : ∃ z : St, z = st σ_16 65 0 (Int.toNat (((σ_16 7 0 2) * 3) + 0)) x2 := ⟨_, rfl⟩
            rw [← eσ_19] at h
            have hw := hw σ_19 eσ_19
            refine lv_aload_n X.1 X.2.1 dX7_tell_83 rfl (lv_at hl 0 rfl) ?_
            refine r_getR (ci := 7) X inw_7 h (hF.1 7 rfl).1 rfl rfl 1 (by decide) kw_160 rfl ((hF.1 7 rfl).2 1) dX7_tell_84 ?_
            refine lv_aload_n X.1 X.2.1 dX7_tell_87 rfl (lv_at hl 0 rfl) ?_
            refine r_get (ci := 7) X inw_7 h (hF.1 7 rfl).1 rfl rfl 2 (by decide) kw_161 rfl dX7_tell_88 ?_
            refine j_iconst X dX7_tell_91 ?_
            refine j_imul X dX7_tell_92 ?_
            refine j_iconst X dX7_tell_93 ?_
            refine j_iadd X dX7_tell_94 ?_
            refine lv_iload_n X.1 X.2.1 dX7_tell_95 rfl (lv_at hl 3 rfl) ?_
            obtain ⟨g_20, g_21, hw⟩ := hw
            refine r_iast (n := 600) X h (hF.1 65 rfl).1 (fun _ => rfl) (by decide) g_20 g_21 rfl dX7_tell_96 (fun H locs h => ?_)
            obtain ⟨σ_22, eσ_22⟩ : ∃ z : St, z = st σ_19 65 0 (Int.toNat (((σ_19 7 0 2) * 3) + 1)) x3 := ⟨_, rfl⟩
            rw [← eσ_22] at h
            have hw := hw σ_22 eσ_22
            refine lv_aload_n X.1 X.2.1 dX7_tell_97 rfl (lv_at hl 0 rfl) ?_
            refine r_getR (ci := 7) X inw_7 h (hF.1 7 rfl).1 rfl rfl 1 (by decide) kw_160 rfl ((hF.1 7 rfl).2 1) dX7_tell_98 ?_
            refine lv_aload_n X.1 X.2.1 dX7_tell_101 rfl (lv_at hl 0 rfl) ?_
            refine r_get (ci := 7) X inw_7 h (hF.1 7 rfl).1 rfl rfl 2 (by decide) kw_161 rfl dX7_tell_102 ?_
            refine j_iconst X dX7_tell_105 ?_
            refine j_imul X dX7_tell_106 ?_
            refine j_iconst X dX7_tell_107 ?_
            refine j_iadd X dX7_tell_108 ?_
            refine lv_iload X.1 X.2.1 dX7_tell_109 (lv_at hl 4 rfl) ?_
            obtain ⟨g_23, g_24, hw⟩ := hw
            refine r_iast (n := 600) X h (hF.1 65 rfl).1 (fun _ => rfl) (by decide) g_23 g_24 rfl dX7_tell_111 (fun H locs h => ?_)
            obtain ⟨σ_25, eσ_25⟩ : ∃ z : St, z = st σ_22 65 0 (Int.toNat (((σ_22 7 0 2) * 3) + 2)) x4 := ⟨_, rfl⟩
            rw [← eσ_25] at h
            have hw := hw σ_25 eσ_25
            refine lv_aload_n X.1 X.2.1 dX7_tell_112 rfl (lv_at hl 0 rfl) ?_
            refine lv_dup X.1 X.2.1 dX7_tell_113 rfl ?_
            refine r_get (ci := 7) X inw_7 h (hF.1 7 rfl).1 rfl rfl 2 (by decide) kw_161 rfl dX7_tell_114 ?_
            refine j_iconst X dX7_tell_117 ?_
            refine j_iadd X dX7_tell_118 ?_
            refine r_put (ci := 7) X inw_7 tyX7 tyX7_ok nmX7 h (hF.1 7 rfl).1 rfl rfl 2 (by decide) kw_161 rfl rfl rfl (Nat.le_of_ble_eq_true rfl) rfl rfl dX7_tell_119 (fun H locs h => ?_)
            obtain ⟨σ_26, eσ_26⟩ : ∃ z : St, z = st σ_25 7 0 2 ((σ_25 7 0 2) + 1) := ⟨_, rfl⟩
            rw [← eσ_26] at h
            have hw := hw σ_26 eσ_26
            refine lv_aload_n X.1 X.2.1 dX7_tell_122 rfl (lv_at hl 0 rfl) ?_
            refine lv_aload_n X.1 X.2.1 dX7_tell_123 rfl (lv_at hl 0 rfl) ?_
            refine lv_aload_n X.1 X.2.1 dX7_tell_124 rfl (lv_at hl 0 rfl) ?_
            refine r_get (ci := 7) X inw_7 h (hF.1 7 rfl).1 rfl rfl 3 (by decide) kw_162 rfl dX7_tell_125 ?_
            refine k_i h (r_V (C := RX7) (ci := 7) (As := [.int (iv (σ_26 7 0 3))]) (rest := [.ref (ad 7 0)]) X h (c_X7_tellingFor l D ct ad L φ N0 σ_26 (σ_26 7 0 3) _ hw) rfl rfl ⟨Nat.le_of_ble_eq_true rfl, Nat.le_of_ble_eq_true rfl⟩ kw_556 kw_558 kw_0 kw_121 kw_559 ⟨rfl, pd_X7_tellingFor⟩ (hF.1 7 rfl).1 rfl rfl rfl hl.1 rfl (Nat.le_of_ble_eq_true rfl) ⟨Nat.le_of_ble_eq_true rfl, Nat.le_of_ble_eq_true rfl⟩ dX7_tell_128) (fun r_28 σ_27 H locs hw h => ?_)
            refine r_put (ci := 7) X inw_7 tyX7 tyX7_ok nmX7 h (hF.1 7 rfl).1 rfl rfl 4 (by decide) kw_166 rfl rfl rfl (Nat.le_of_ble_eq_true rfl) rfl rfl dX7_tell_131 (fun H locs h => ?_)
            obtain ⟨σ_29, eσ_29⟩ : ∃ z : St, z = st σ_27 7 0 4 r_28 := ⟨_, rfl⟩
            rw [← eσ_29] at h
            have hw := hw σ_29 eσ_29
            refine j_iconst X dX7_tell_134 ?_
            exact k_ir X rfl h hw dX7_tell_135
          · have hw := hwf c_30
            refine j_iconst X dX7_tell_57 ?_
            exact k_ir X rfl h hw dX7_tell_58
    · have hw := hwf c_33
      refine j_iconst X dX7_tell_24 ?_
      exact k_ir X rfl h hw dX7_tell_25
end
section
variable {p : Program} {l : Launch} {e : Env} {s : State} {m : MethodId} {args : Array Value} {below : List Frame} {meth : Method} {c : Code} {D : va_G} {ct : Nat → ClassId} {ad : Nat → Nat → Nat} {L : List (Nat × Nat)} {φ : Nat → Nat → Nat → Bool} {N0 : Nat}
variable {Q : St → Prop}
theorem pd_X7_nextDay : yX7_nextDay.cls ≠ "java/lang/invoke/MethodHandle" ∧ yX7_nextDay.cls ≠ "java/lang/invoke/VarHandle" ∧ (parseMethodDescriptor yX7_nextDay.desc).map (fun d => d.parameters.length) = some 0 := by decide +kernel
set_option maxRecDepth 100000 in
set_option maxHeartbeats 4000000 in
theorem c_X7_nextDay (l : Launch) (D : va_G) (ct : Nat → ClassId) (ad : Nat → Nat → Nat) (L : List (Nat × Nat)) (φ : Nat → Nat → Nat → Bool) (N0 : Nat) (σ : St) (Q : St → Prop) (hw : wp_X7_nextDay σ Q) : Met l yX7_nextDay (.code yX7_nextDay cX7_nextDay 1 none :: gw) ({ frames := 1, cells := 0, slots := 0, locals := 23 } : Room) (Pm D ct ad L φ N0 σ [.ref (ad 7 0)]) (Qv D ct ad L φ N0 Q) 0 0 (AA N0) := by
  refine m_of (by decide) (fun p e s m below meth c X hnm h => ?_)
  have hF := X.2.2.2.2.2.2.2.2.1
  have hl := lv_entry ([.ref (ad 7 0)]) (n := 1) (Nat.le_of_ble_eq_true rfl)
  rw [lg_entry_eq]
  generalize (lg_sl ([.ref (ad 7 0)]) ++ List.replicate (1 - (lg_sl ([.ref (ad 7 0)])).length) Slot.unset).toArray = ls at hl ⊢
  have hl : lv_has ls 1 [(0, .ref (ad 7 0))] := hl
  have h : Hs D ct ad L φ N0 s.heap σ s.heap [] := h
  unfold wp_X7_nextDay at hw
  refine lv_aload_n X.1 X.2.1 dX7_nextDay_0 rfl (lv_at hl 0 rfl) ?_
  refine lv_dup X.1 X.2.1 dX7_nextDay_1 rfl ?_
  refine r_get (ci := 7) X inw_7 h (hF.1 7 rfl).1 rfl rfl 3 (by decide) kw_162 rfl dX7_nextDay_2 ?_
  refine j_iconst X dX7_nextDay_5 ?_
  refine j_iadd X dX7_nextDay_6 ?_
  refine r_put (ci := 7) X inw_7 tyX7 tyX7_ok nmX7 h (hF.1 7 rfl).1 rfl rfl 3 (by decide) kw_162 rfl rfl rfl (Nat.le_of_ble_eq_true rfl) rfl rfl dX7_nextDay_7 (fun H locs h => ?_)
  obtain ⟨σ_1, eσ_1⟩ : ∃ z : St, z = st σ 7 0 3 ((σ 7 0 3) + 1) := ⟨_, rfl⟩
  rw [← eσ_1] at h
  have hw := hw σ_1 eσ_1
  refine lv_aload_n X.1 X.2.1 dX7_nextDay_10 rfl (lv_at hl 0 rfl) ?_
  refine lv_aload_n X.1 X.2.1 dX7_nextDay_11 rfl (lv_at hl 0 rfl) ?_
  refine lv_aload_n X.1 X.2.1 dX7_nextDay_12 rfl (lv_at hl 0 rfl) ?_
  refine r_get (ci := 7) X inw_7 h (hF.1 7 rfl).1 rfl rfl 3 (by decide) kw_162 rfl dX7_nextDay_13 ?_
  refine k_i h (r_V (C := RX7) (ci := 7) (As := [.int (iv (σ_1 7 0 3))]) (rest := [.ref (ad 7 0)]) X h (c_X7_tellingFor l D ct ad L φ N0 σ_1 (σ_1 7 0 3) _ hw) rfl rfl ⟨Nat.le_of_ble_eq_true rfl, Nat.le_of_ble_eq_true rfl⟩ kw_556 kw_558 kw_0 kw_121 kw_559 ⟨rfl, pd_X7_tellingFor⟩ (hF.1 7 rfl).1 rfl rfl rfl hl.1 rfl (Nat.le_of_ble_eq_true rfl) ⟨Nat.le_of_ble_eq_true rfl, Nat.le_of_ble_eq_true rfl⟩ dX7_nextDay_16) (fun r_3 σ_2 H locs hw h => ?_)
  refine r_put (ci := 7) X inw_7 tyX7 tyX7_ok nmX7 h (hF.1 7 rfl).1 rfl rfl 4 (by decide) kw_166 rfl rfl rfl (Nat.le_of_ble_eq_true rfl) rfl rfl dX7_nextDay_19 (fun H locs h => ?_)
  obtain ⟨σ_4, eσ_4⟩ : ∃ z : St, z = st σ_2 7 0 4 r_3 := ⟨_, rfl⟩
  rw [← eσ_4] at h
  have hw := hw σ_4 eσ_4
  exact k_vr X h hw dX7_nextDay_22
end
section
variable {p : Program} {l : Launch} {e : Env} {s : State} {m : MethodId} {args : Array Value} {below : List Frame} {meth : Method} {c : Code} {D : va_G} {ct : Nat → ClassId} {ad : Nat → Nat → Nat} {L : List (Nat × Nat)} {φ : Nat → Nat → Nat → Bool} {N0 : Nat}
variable {Q : Int → St → Prop}
theorem pd_X7_valueOf : yX7_valueOf.cls ≠ "java/lang/invoke/MethodHandle" ∧ yX7_valueOf.cls ≠ "java/lang/invoke/VarHandle" ∧ (parseMethodDescriptor yX7_valueOf.desc).map (fun d => d.parameters.length) = some 2 := by decide +kernel
set_option maxRecDepth 100000 in
set_option maxHeartbeats 4000000 in
theorem c_X7_valueOf (l : Launch) (D : va_G) (ct : Nat → ClassId) (ad : Nat → Nat → Nat) (L : List (Nat × Nat)) (φ : Nat → Nat → Nat → Bool) (N0 : Nat) (σ : St) (x1 : Int) (x2 : Int) (Q : Int → St → Prop) (hw : wp_X7_valueOf σ x1 x2 Q) : Met l yX7_valueOf (.code yX7_valueOf cX7_valueOf 3 (some .int) :: gw) ({ frames := 0, cells := 0, slots := 0, locals := 0 } : Room) (Pm D ct ad L φ N0 σ [.ref (ad 7 0), .int (iv x1), .int (iv x2)]) (Qi D ct ad L φ N0 Q) 0 0 (AA N0) := by
  refine m_of (by decide) (fun p e s m below meth c X hnm h => ?_)
  have hF := X.2.2.2.2.2.2.2.2.1
  have hl := lv_entry ([.ref (ad 7 0), .int (iv x1), .int (iv x2)]) (n := 3) (Nat.le_of_ble_eq_true rfl)
  rw [lg_entry_eq]
  generalize (lg_sl ([.ref (ad 7 0), .int (iv x1), .int (iv x2)]) ++ List.replicate (3 - (lg_sl ([.ref (ad 7 0), .int (iv x1), .int (iv x2)])).length) Slot.unset).toArray = ls at hl ⊢
  have hl : lv_has ls 3 [(0, .ref (ad 7 0)), (1, .int (iv x1)), (2, .int (iv x2))] := hl
  have h : Hs D ct ad L φ N0 s.heap σ s.heap [] := h
  unfold wp_X7_valueOf at hw
  refine lv_iload_n X.1 X.2.1 dX7_valueOf_0 rfl (lv_at hl 1 rfl) ?_
  refine j_iconst X dX7_valueOf_1 ?_
  obtain ⟨g_1, hwt, hwf⟩ := hw
  refine j_cmp_ne (tgt := 13) X g_1 ⟨by decide, by decide⟩ dX7_valueOf_2 (by decide) (fun c_6 => ?_) (fun c_6 => ?_)
  · have hw := hwt c_6
    refine lv_aload_n X.1 X.2.1 dX7_valueOf_13 rfl (lv_at hl 0 rfl) ?_
    refine r_getR (ci := 7) X inw_7 h (hF.1 7 rfl).1 rfl rfl 1 (by decide) kw_160 rfl ((hF.1 7 rfl).2 1) dX7_valueOf_14 ?_
    refine lv_iload_n X.1 X.2.1 dX7_valueOf_17 rfl (lv_at hl 1 rfl) ?_
    refine j_iconst X dX7_valueOf_18 ?_
    refine j_imul X dX7_valueOf_19 ?_
    refine lv_iload_n X.1 X.2.1 dX7_valueOf_20 rfl (lv_at hl 2 rfl) ?_
    refine j_iadd X dX7_valueOf_21 ?_
    obtain ⟨g_2, g_3, hw⟩ := hw
    refine r_iald (n := 600) X h (hF.1 65 rfl).1 rfl (by decide) g_2 g_3 dX7_valueOf_22 ?_
    exact k_ir X rfl h hw dX7_valueOf_23
  · have hw := hwf c_6
    refine r_gets (v := .ref (ct 1000)) X h X.2.2.2.2.2.2.2.1.2.2.1.1 kw_575 dX7_valueOf_5 ?_
    refine lv_iload_n X.1 X.2.1 dX7_valueOf_8 rfl (lv_at hl 2 rfl) ?_
    obtain ⟨g_4, g_5, hw⟩ := hw
    refine r_ti (N := 3) X h X.2.2.2.2.2.2.2.1.2.2.1.2 (by decide) g_4 g_5 tb_1 dX7_valueOf_9 ?_
    refine lv_goto (tgt := 23) X.1 X.2.1 dX7_valueOf_10 (by decide) ?_
    exact k_ir X rfl h hw dX7_valueOf_23
end
section
variable {p : Program} {l : Launch} {e : Env} {s : State} {m : MethodId} {args : Array Value} {below : List Frame} {meth : Method} {c : Code} {D : va_G} {ct : Nat → ClassId} {ad : Nat → Nat → Nat} {L : List (Nat × Nat)} {φ : Nat → Nat → Nat → Bool} {N0 : Nat}
variable {Q : Int → St → Prop}
theorem pd_X7_on : yX7_on.cls ≠ "java/lang/invoke/MethodHandle" ∧ yX7_on.cls ≠ "java/lang/invoke/VarHandle" ∧ (parseMethodDescriptor yX7_on.desc).map (fun d => d.parameters.length) = some 2 := by decide +kernel
set_option maxRecDepth 100000 in
set_option maxHeartbeats 4000000 in
theorem c_X7_on (l : Launch) (D : va_G) (ct : Nat → ClassId) (ad : Nat → Nat → Nat) (L : List (Nat × Nat)) (φ : Nat → Nat → Nat → Bool) (N0 : Nat) (σ : St) (x1 : Int) (x2 : Int) (Q : Int → St → Prop) (hw : wp_X7_on σ x1 x2 Q) : Met l yX7_on (.code yX7_on cX7_on 3 (some .int) :: gw) ({ frames := 1, cells := 0, slots := 0, locals := 23 } : Room) (Pm D ct ad L φ N0 σ [.ref (ad 7 0), .int (iv x1), .int (iv x2)]) (Qi D ct ad L φ N0 Q) 0 0 (AA N0) := by
  refine m_of (by decide) (fun p e s m below meth c X hnm h => ?_)
  have hF := X.2.2.2.2.2.2.2.2.1
  have hl := lv_entry ([.ref (ad 7 0), .int (iv x1), .int (iv x2)]) (n := 3) (Nat.le_of_ble_eq_true rfl)
  rw [lg_entry_eq]
  generalize (lg_sl ([.ref (ad 7 0), .int (iv x1), .int (iv x2)]) ++ List.replicate (3 - (lg_sl ([.ref (ad 7 0), .int (iv x1), .int (iv x2)])).length) Slot.unset).toArray = ls at hl ⊢
  have hl : lv_has ls 3 [(0, .ref (ad 7 0)), (1, .int (iv x1)), (2, .int (iv x2))] := hl
  have h : Hs D ct ad L φ N0 s.heap σ s.heap [] := h
  unfold wp_X7_on at hw
  refine lv_aload_n X.1 X.2.1 dX7_on_0 rfl (lv_at hl 0 rfl) ?_
  refine lv_aload_n X.1 X.2.1 dX7_on_1 rfl (lv_at hl 0 rfl) ?_
  refine lv_iload_n X.1 X.2.1 dX7_on_2 rfl (lv_at hl 1 rfl) ?_
  refine k_i h (r_V (C := RX7) (ci := 7) (As := [.int (iv x1)]) (rest := [.ref (ad 7 0)]) X h (c_X7_tellingFor l D ct ad L φ N0 σ x1 _ hw) rfl rfl ⟨Nat.le_of_ble_eq_true rfl, Nat.le_of_ble_eq_true rfl⟩ kw_556 kw_558 kw_0 kw_121 kw_559 ⟨rfl, pd_X7_tellingFor⟩ (hF.1 7 rfl).1 rfl rfl rfl hl.1 rfl (Nat.le_of_ble_eq_true rfl) ⟨Nat.le_of_ble_eq_true rfl, Nat.le_of_ble_eq_true rfl⟩ dX7_on_3) (fun r_2 σ_1 H locs hw h => ?_)
  refine lv_iload_n X.1 X.2.1 dX7_on_6 rfl (lv_at hl 2 rfl) ?_
  refine k_i h (r_V (C := RX7) (ci := 7) (As := [.int (iv r_2), .int (iv x2)]) (rest := []) X h (c_X7_valueOf l D ct ad L φ N0 σ_1 r_2 x2 _ hw) rfl rfl ⟨Nat.le_of_ble_eq_true rfl, Nat.le_of_ble_eq_true rfl⟩ kw_571 kw_573 kw_1 kw_121 kw_574 ⟨rfl, pd_X7_valueOf⟩ (hF.1 7 rfl).1 rfl rfl rfl hl.1 rfl (Nat.le_of_ble_eq_true rfl) ⟨Nat.le_of_ble_eq_true rfl, Nat.le_of_ble_eq_true rfl⟩ dX7_on_7) (fun r_4 σ_3 H locs hw h => ?_)
  exact k_ir X rfl h hw dX7_on_10
end
section
variable {p : Program} {l : Launch} {e : Env} {s : State} {m : MethodId} {args : Array Value} {below : List Frame} {meth : Method} {c : Code} {D : va_G} {ct : Nat → ClassId} {ad : Nat → Nat → Nat} {L : List (Nat × Nat)} {φ : Nat → Nat → Nat → Bool} {N0 : Nat}
variable {Q : Int → St → Prop}
theorem pd_X7_now : yX7_now.cls ≠ "java/lang/invoke/MethodHandle" ∧ yX7_now.cls ≠ "java/lang/invoke/VarHandle" ∧ (parseMethodDescriptor yX7_now.desc).map (fun d => d.parameters.length) = some 1 := by decide +kernel
set_option maxRecDepth 100000 in
set_option maxHeartbeats 4000000 in
theorem c_X7_now (l : Launch) (D : va_G) (ct : Nat → ClassId) (ad : Nat → Nat → Nat) (L : List (Nat × Nat)) (φ : Nat → Nat → Nat → Bool) (N0 : Nat) (σ : St) (x1 : Int) (Q : Int → St → Prop) (hw : wp_X7_now σ x1 Q) : Met l yX7_now (.code yX7_now cX7_now 2 (some .int) :: gw) ({ frames := 1, cells := 0, slots := 0, locals := 22 } : Room) (Pm D ct ad L φ N0 σ [.ref (ad 7 0), .int (iv x1)]) (Qi D ct ad L φ N0 Q) 0 0 (AA N0) := by
  refine m_of (by decide) (fun p e s m below meth c X hnm h => ?_)
  have hF := X.2.2.2.2.2.2.2.2.1
  have hl := lv_entry ([.ref (ad 7 0), .int (iv x1)]) (n := 2) (Nat.le_of_ble_eq_true rfl)
  rw [lg_entry_eq]
  generalize (lg_sl ([.ref (ad 7 0), .int (iv x1)]) ++ List.replicate (2 - (lg_sl ([.ref (ad 7 0), .int (iv x1)])).length) Slot.unset).toArray = ls at hl ⊢
  have hl : lv_has ls 2 [(0, .ref (ad 7 0)), (1, .int (iv x1))] := hl
  have h : Hs D ct ad L φ N0 s.heap σ s.heap [] := h
  unfold wp_X7_now at hw
  refine lv_aload_n X.1 X.2.1 dX7_now_0 rfl (lv_at hl 0 rfl) ?_
  refine lv_aload_n X.1 X.2.1 dX7_now_1 rfl (lv_at hl 0 rfl) ?_
  refine r_get (ci := 7) X inw_7 h (hF.1 7 rfl).1 rfl rfl 4 (by decide) kw_166 rfl dX7_now_2 ?_
  refine lv_iload_n X.1 X.2.1 dX7_now_5 rfl (lv_at hl 1 rfl) ?_
  refine k_i h (r_V (C := RX7) (ci := 7) (As := [.int (iv (σ 7 0 4)), .int (iv x1)]) (rest := []) X h (c_X7_valueOf l D ct ad L φ N0 σ (σ 7 0 4) x1 _ hw) rfl rfl ⟨Nat.le_of_ble_eq_true rfl, Nat.le_of_ble_eq_true rfl⟩ kw_571 kw_573 kw_1 kw_121 kw_574 ⟨rfl, pd_X7_valueOf⟩ (hF.1 7 rfl).1 rfl rfl rfl hl.1 rfl (Nat.le_of_ble_eq_true rfl) ⟨Nat.le_of_ble_eq_true rfl, Nat.le_of_ble_eq_true rfl⟩ dX7_now_6) (fun r_2 σ_1 H locs hw h => ?_)
  exact k_ir X rfl h hw dX7_now_9
end
section
variable {p : Program} {l : Launch} {e : Env} {s : State} {m : MethodId} {args : Array Value} {below : List Frame} {meth : Method} {c : Code} {D : va_G} {ct : Nat → ClassId} {ad : Nat → Nat → Nat} {L : List (Nat × Nat)} {φ : Nat → Nat → Nat → Bool} {N0 : Nat}
variable {Q : Int → St → Prop}
theorem pd_X7_season : yX7_season.cls ≠ "java/lang/invoke/MethodHandle" ∧ yX7_season.cls ≠ "java/lang/invoke/VarHandle" ∧ (parseMethodDescriptor yX7_season.desc).map (fun d => d.parameters.length) = some 0 := by decide +kernel
set_option maxRecDepth 100000 in
set_option maxHeartbeats 4000000 in
theorem c_X7_season (l : Launch) (D : va_G) (ct : Nat → ClassId) (ad : Nat → Nat → Nat) (L : List (Nat × Nat)) (φ : Nat → Nat → Nat → Bool) (N0 : Nat) (σ : St) (Q : Int → St → Prop) (hw : wp_X7_season σ Q) : Met l yX7_season (.code yX7_season cX7_season 1 (some .int) :: gw) ({ frames := 0, cells := 0, slots := 0, locals := 0 } : Room) (Pm D ct ad L φ N0 σ [.ref (ad 7 0)]) (Qi D ct ad L φ N0 Q) 0 0 (AA N0) := by
  refine m_of (by decide) (fun p e s m below meth c X hnm h => ?_)
  have hF := X.2.2.2.2.2.2.2.2.1
  have hl := lv_entry ([.ref (ad 7 0)]) (n := 1) (Nat.le_of_ble_eq_true rfl)
  rw [lg_entry_eq]
  generalize (lg_sl ([.ref (ad 7 0)]) ++ List.replicate (1 - (lg_sl ([.ref (ad 7 0)])).length) Slot.unset).toArray = ls at hl ⊢
  have hl : lv_has ls 1 [(0, .ref (ad 7 0))] := hl
  have h : Hs D ct ad L φ N0 s.heap σ s.heap [] := h
  unfold wp_X7_season at hw
  refine lv_aload_n X.1 X.2.1 dX7_season_0 rfl (lv_at hl 0 rfl) ?_
  refine r_get (ci := 7) X inw_7 h (hF.1 7 rfl).1 rfl rfl 3 (by decide) kw_162 rfl dX7_season_1 ?_
  refine j_bipush X dX7_season_4 (by decide) ?_
  obtain ⟨g_1, hw⟩ := hw
  refine j_irem X g_1 ⟨by decide, by decide⟩ (by decide) (by decide) dX7_season_6 ?_
  refine j_bipush X dX7_season_7 (by decide) ?_
  obtain ⟨g_2, hw⟩ := hw
  refine j_idiv X g_2 ⟨by decide, by decide⟩ (by decide) (by decide) dX7_season_9 ?_
  exact k_ir X rfl h hw dX7_season_10
end
section
variable {p : Program} {l : Launch} {e : Env} {s : State} {m : MethodId} {args : Array Value} {below : List Frame} {meth : Method} {c : Code} {D : va_G} {ct : Nat → ClassId} {ad : Nat → Nat → Nat} {L : List (Nat × Nat)} {φ : Nat → Nat → Nat → Bool} {N0 : Nat}
variable {Q : Int → St → Prop}
theorem pd_X9_isBlank : yX9_isBlank.cls ≠ "java/lang/invoke/MethodHandle" ∧ yX9_isBlank.cls ≠ "java/lang/invoke/VarHandle" ∧ (parseMethodDescriptor yX9_isBlank.desc).map (fun d => d.parameters.length) = some 1 := by decide +kernel
set_option maxRecDepth 100000 in
set_option maxHeartbeats 4000000 in
theorem c_X9_isBlank (l : Launch) (D : va_G) (ct : Nat → ClassId) (ad : Nat → Nat → Nat) (L : List (Nat × Nat)) (φ : Nat → Nat → Nat → Bool) (N0 : Nat) (σ : St) (x0 : Int) (Q : Int → St → Prop) (hw : wp_X9_isBlank σ x0 Q) : Met l yX9_isBlank (.code yX9_isBlank cX9_isBlank 1 (some .boolean) :: gw) ({ frames := 0, cells := 0, slots := 0, locals := 0 } : Room) (Pm D ct ad L φ N0 σ [.int (iv x0)]) (Qi D ct ad L φ N0 Q) 0 0 (AA N0) := by
  refine m_of (by decide) (fun p e s m below meth c X hnm h => ?_)
  have hF := X.2.2.2.2.2.2.2.2.1
  have hl := lv_entry ([.int (iv x0)]) (n := 1) (Nat.le_of_ble_eq_true rfl)
  rw [lg_entry_eq]
  generalize (lg_sl ([.int (iv x0)]) ++ List.replicate (1 - (lg_sl ([.int (iv x0)])).length) Slot.unset).toArray = ls at hl ⊢
  have hl : lv_has ls 1 [(0, .int (iv x0))] := hl
  have h : Hs D ct ad L φ N0 s.heap σ s.heap [] := h
  unfold wp_X9_isBlank at hw
  refine lv_iload_n X.1 X.2.1 dX9_isBlank_0 rfl (lv_at hl 0 rfl) ?_
  refine j_bipush X dX9_isBlank_1 (by decide) ?_
  obtain ⟨g_1, hwt, hwf⟩ := hw
  refine j_cmp_eq (tgt := 12) X g_1 ⟨by decide, by decide⟩ dX9_isBlank_3 (by decide) (fun c_4 => ?_) (fun c_4 => ?_)
  · have hw := hwt c_4
    refine j_iconst X dX9_isBlank_12 ?_
    refine lv_goto (tgt := 17) X.1 X.2.1 dX9_isBlank_13 (by decide) ?_
    exact k_ir X rfl h hw dX9_isBlank_17
  · have hw := hwf c_4
    refine lv_iload_n X.1 X.2.1 dX9_isBlank_6 rfl (lv_at hl 0 rfl) ?_
    refine j_bipush X dX9_isBlank_7 (by decide) ?_
    obtain ⟨g_2, hwt, hwf⟩ := hw
    refine j_cmp_ne (tgt := 16) X g_2 ⟨by decide, by decide⟩ dX9_isBlank_9 (by decide) (fun c_3 => ?_) (fun c_3 => ?_)
    · have hw := hwt c_3
      refine j_iconst X dX9_isBlank_16 ?_
      exact k_ir X rfl h hw dX9_isBlank_17
    · have hw := hwf c_3
      refine j_iconst X dX9_isBlank_12 ?_
      refine lv_goto (tgt := 17) X.1 X.2.1 dX9_isBlank_13 (by decide) ?_
      exact k_ir X rfl h hw dX9_isBlank_17
end
section
variable {p : Program} {l : Launch} {e : Env} {s : State} {m : MethodId} {args : Array Value} {below : List Frame} {meth : Method} {c : Code} {D : va_G} {ct : Nat → ClassId} {ad : Nat → Nat → Nat} {L : List (Nat × Nat)} {φ : Nat → Nat → Nat → Bool} {N0 : Nat}
variable {Q : Int → St → Prop}
theorem pd_X9_isLetter : yX9_isLetter.cls ≠ "java/lang/invoke/MethodHandle" ∧ yX9_isLetter.cls ≠ "java/lang/invoke/VarHandle" ∧ (parseMethodDescriptor yX9_isLetter.desc).map (fun d => d.parameters.length) = some 1 := by decide +kernel
set_option maxRecDepth 100000 in
set_option maxHeartbeats 4000000 in
theorem c_X9_isLetter (l : Launch) (D : va_G) (ct : Nat → ClassId) (ad : Nat → Nat → Nat) (L : List (Nat × Nat)) (φ : Nat → Nat → Nat → Bool) (N0 : Nat) (σ : St) (x0 : Int) (Q : Int → St → Prop) (hw : wp_X9_isLetter σ x0 Q) : Met l yX9_isLetter (.code yX9_isLetter cX9_isLetter 1 (some .boolean) :: gw) ({ frames := 1, cells := 0, slots := 0, locals := 22 } : Room) (Pm D ct ad L φ N0 σ [.int (iv x0)]) (Qi D ct ad L φ N0 Q) 0 0 (AA N0) := by
  refine m_of (by decide) (fun p e s m below meth c X hnm h => ?_)
  have hF := X.2.2.2.2.2.2.2.2.1
  have hl := lv_entry ([.int (iv x0)]) (n := 1) (Nat.le_of_ble_eq_true rfl)
  rw [lg_entry_eq]
  generalize (lg_sl ([.int (iv x0)]) ++ List.replicate (1 - (lg_sl ([.int (iv x0)])).length) Slot.unset).toArray = ls at hl ⊢
  have hl : lv_has ls 1 [(0, .int (iv x0))] := hl
  have h : Hs D ct ad L φ N0 s.heap σ s.heap [] := h
  unfold wp_X9_isLetter at hw
  refine lv_iload_n X.1 X.2.1 dX9_isLetter_0 rfl (lv_at hl 0 rfl) ?_
  refine j_bipush X dX9_isLetter_1 (by decide) ?_
  refine j_bipush X dX9_isLetter_3 (by decide) ?_
  refine k_i h (r_SN (As := [.int (iv x0), .int (iv 97), .int (iv 122)]) (rest := []) X h (c_X11_within l D ct ad L φ N0 σ x0 97 122 _ hw) rfl rfl ⟨Nat.le_of_ble_eq_true rfl, Nat.le_of_ble_eq_true rfl⟩ kw_971 kw_527 kw_120 kw_528 pd_X11_within rfl hl.1 rfl (Nat.le_of_ble_eq_true rfl) ⟨Nat.le_of_ble_eq_true rfl, Nat.le_of_ble_eq_true rfl⟩ dX9_isLetter_5) (fun r_2 σ_1 H locs hw h => ?_)
  obtain ⟨g_3, hw⟩ := hw
  exact k_ir X (nb_n g_3) h hw dX9_isLetter_8
end
section
variable {p : Program} {l : Launch} {e : Env} {s : State} {m : MethodId} {args : Array Value} {below : List Frame} {meth : Method} {c : Code} {D : va_G} {ct : Nat → ClassId} {ad : Nat → Nat → Nat} {L : List (Nat × Nat)} {φ : Nat → Nat → Nat → Bool} {N0 : Nat}
variable {Q : Int → St → Prop}
set_option maxRecDepth 100000 in
set_option maxHeartbeats 4000000 in
theorem lb_X9_behindLetters_2 (X : Cx p s m meth c args cX9_behindLetters 3 (some .int) RX9 D ct L φ N0) : ∀ (n : Nat) (σ : St) (x2 : Int) (H : Heap) (locs : List Loc) (ls : Array Slot), wp_X9_behindLetters_2 Q n σ x2 → Hs D ct ad L φ N0 s.heap σ H locs → lv_has ls 3 [(0, .ref (ad 9 0)), (2, .int (iv x2))] → W p l e ({ frames := 2, cells := 0, slots := 0, locals := 42 } : Room) s m args below meth c H locs 0 0 (MQ below (Qi D ct ad L φ N0 Q) args s 0 0 (AA N0)) (F0 m 2 ls []) := by
  have hF := X.2.2.2.2.2.2.2.2.1
  intro n
  induction n with
  | zero => intro σ x2 H locs ls hw; exact hw.elim
  | succ n ih =>
    intro σ x2 H locs ls hw h hl
    unfold wp_X9_behindLetters_2 at hw
    refine lv_iload_n X.1 X.2.1 dX9_behindLetters_2 rfl (lv_at hl 1 rfl) ?_
    refine lv_aload_n X.1 X.2.1 dX9_behindLetters_3 rfl (lv_at hl 0 rfl) ?_
    refine r_get (ci := 9) X inw_9 h (hF.1 9 rfl).1 rfl rfl 1 (by decide) kw_257 rfl dX9_behindLetters_4 ?_
    obtain ⟨g_1, g_2, hwt, hwf⟩ := hw
    refine j_cmp_ge (tgt := 28) X g_1 g_2 dX9_behindLetters_7 (by decide) (fun c_9 => ?_) (fun c_9 => ?_)
    · have hw := hwt c_9
      refine lv_iload_n X.1 X.2.1 dX9_behindLetters_28 rfl (lv_at hl 1 rfl) ?_
      exact k_ir X rfl h hw dX9_behindLetters_29
    · have hw := hwf c_9
      refine lv_aload_n X.1 X.2.1 dX9_behindLetters_10 rfl (lv_at hl 0 rfl) ?_
      refine r_getR (ci := 9) X inw_9 h (hF.1 9 rfl).1 rfl rfl 0 (by decide) kw_256 rfl ((hF.1 9 rfl).2 0) dX9_behindLetters_11 ?_
      refine lv_iload_n X.1 X.2.1 dX9_behindLetters_14 rfl (lv_at hl 1 rfl) ?_
      obtain ⟨g_3, g_4, hw⟩ := hw
      refine r_iald (n := 300) X h (hF.1 76 rfl).1 rfl (by decide) g_3 g_4 dX9_behindLetters_15 ?_
      refine k_i h (r_S (As := [.int (iv (σ 76 0 (Int.toNat x2)))]) (rest := []) X h (c_X9_isLetter l D ct ad L φ N0 σ (σ 76 0 (Int.toNat x2)) _ hw) rfl rfl ⟨Nat.le_of_ble_eq_true rfl, Nat.le_of_ble_eq_true rfl⟩ kw_968 kw_969 kw_124 kw_970 pd_X9_isLetter rfl hl.1 rfl (Nat.le_of_ble_eq_true rfl) ⟨Nat.le_of_ble_eq_true rfl, Nat.le_of_ble_eq_true rfl⟩ dX9_behindLetters_16) (fun r_6 σ_5 H locs hw h => ?_)
      obtain ⟨g_7, hwt, hwf⟩ := hw
      refine j_if_eq (tgt := 28) X g_7 dX9_behindLetters_19 (by decide) (fun c_8 => ?_) (fun c_8 => ?_)
      · have hw := hwt c_8
        refine lv_iload_n X.1 X.2.1 dX9_behindLetters_28 rfl (lv_at hl 1 rfl) ?_
        exact k_ir X rfl h hw dX9_behindLetters_29
      · have hw := hwf c_8
        refine j_iinc (kk9 := 1) (lv' := [(2, .int (iv (x2 + 1))), (0, .ref (ad 9 0))]) X dX9_behindLetters_22 hl rfl (by decide) rfl (fun ls hl => ?_)
        refine lv_goto (tgt := 2) X.1 X.2.1 dX9_behindLetters_25 (by decide) ?_
        exact ih σ_5 (x2 + 1) _ _ _ hw h (lv_sub hl [1, 0] rfl)
theorem pd_X9_behindLetters : yX9_behindLetters.cls ≠ "java/lang/invoke/MethodHandle" ∧ yX9_behindLetters.cls ≠ "java/lang/invoke/VarHandle" ∧ (parseMethodDescriptor yX9_behindLetters.desc).map (fun d => d.parameters.length) = some 1 := by decide +kernel
set_option maxRecDepth 100000 in
set_option maxHeartbeats 4000000 in
theorem c_X9_behindLetters (l : Launch) (D : va_G) (ct : Nat → ClassId) (ad : Nat → Nat → Nat) (L : List (Nat × Nat)) (φ : Nat → Nat → Nat → Bool) (N0 : Nat) (σ : St) (x1 : Int) (Q : Int → St → Prop) (hw : wp_X9_behindLetters σ x1 Q) : Met l yX9_behindLetters (.code yX9_behindLetters cX9_behindLetters 3 (some .int) :: gw) ({ frames := 2, cells := 0, slots := 0, locals := 42 } : Room) (Pm D ct ad L φ N0 σ [.ref (ad 9 0), .int (iv x1)]) (Qi D ct ad L φ N0 Q) 0 0 (AA N0) := by
  refine m_of (by decide) (fun p e s m below meth c X hnm h => ?_)
  have hF := X.2.2.2.2.2.2.2.2.1
  have hl := lv_entry ([.ref (ad 9 0), .int (iv x1)]) (n := 3) (Nat.le_of_ble_eq_true rfl)
  rw [lg_entry_eq]
  generalize (lg_sl ([.ref (ad 9 0), .int (iv x1)]) ++ List.replicate (3 - (lg_sl ([.ref (ad 9 0), .int (iv x1)])).length) Slot.unset).toArray = ls at hl ⊢
  have hl : lv_has ls 3 [(0, .ref (ad 9 0)), (1, .int (iv x1))] := hl
  have h : Hs D ct ad L φ N0 s.heap σ s.heap [] := h
  unfold wp_X9_behindLetters at hw
  refine lv_iload_n X.1 X.2.1 dX9_behindLetters_0 rfl (lv_at hl 1 rfl) ?_
  refine lv_istore_n (lv' := [(2, .int (iv x1)), (0, .ref (ad 9 0)), (1, .int (iv x1))]) X.1 X.2.1 dX9_behindLetters_1 rfl hl (by decide) rfl (fun ls hl => ?_)
  exact hw.elim (fun n2 hw => lb_X9_behindLetters_2 X n2 σ x1 _ _ _ hw h (lv_sub hl [1, 0] rfl))
end
section
variable {p : Program} {l : Launch} {e : Env} {s : State} {m : MethodId} {args : Array Value} {below : List Frame} {meth : Method} {c : Code} {D : va_G} {ct : Nat → ClassId} {ad : Nat → Nat → Nat} {L : List (Nat × Nat)} {φ : Nat → Nat → Nat → Bool} {N0 : Nat}
variable {Q : Int → St → Prop}
theorem pd_X9_isDigit : yX9_isDigit.cls ≠ "java/lang/invoke/MethodHandle" ∧ yX9_isDigit.cls ≠ "java/lang/invoke/VarHandle" ∧ (parseMethodDescriptor yX9_isDigit.desc).map (fun d => d.parameters.length) = some 1 := by decide +kernel
set_option maxRecDepth 100000 in
set_option maxHeartbeats 4000000 in
theorem c_X9_isDigit (l : Launch) (D : va_G) (ct : Nat → ClassId) (ad : Nat → Nat → Nat) (L : List (Nat × Nat)) (φ : Nat → Nat → Nat → Bool) (N0 : Nat) (σ : St) (x0 : Int) (Q : Int → St → Prop) (hw : wp_X9_isDigit σ x0 Q) : Met l yX9_isDigit (.code yX9_isDigit cX9_isDigit 1 (some .boolean) :: gw) ({ frames := 1, cells := 0, slots := 0, locals := 22 } : Room) (Pm D ct ad L φ N0 σ [.int (iv x0)]) (Qi D ct ad L φ N0 Q) 0 0 (AA N0) := by
  refine m_of (by decide) (fun p e s m below meth c X hnm h => ?_)
  have hF := X.2.2.2.2.2.2.2.2.1
  have hl := lv_entry ([.int (iv x0)]) (n := 1) (Nat.le_of_ble_eq_true rfl)
  rw [lg_entry_eq]
  generalize (lg_sl ([.int (iv x0)]) ++ List.replicate (1 - (lg_sl ([.int (iv x0)])).length) Slot.unset).toArray = ls at hl ⊢
  have hl : lv_has ls 1 [(0, .int (iv x0))] := hl
  have h : Hs D ct ad L φ N0 s.heap σ s.heap [] := h
  unfold wp_X9_isDigit at hw
  refine lv_iload_n X.1 X.2.1 dX9_isDigit_0 rfl (lv_at hl 0 rfl) ?_
  refine j_bipush X dX9_isDigit_1 (by decide) ?_
  refine j_bipush X dX9_isDigit_3 (by decide) ?_
  refine k_i h (r_SN (As := [.int (iv x0), .int (iv 48), .int (iv 57)]) (rest := []) X h (c_X11_within l D ct ad L φ N0 σ x0 48 57 _ hw) rfl rfl ⟨Nat.le_of_ble_eq_true rfl, Nat.le_of_ble_eq_true rfl⟩ kw_971 kw_527 kw_120 kw_528 pd_X11_within rfl hl.1 rfl (Nat.le_of_ble_eq_true rfl) ⟨Nat.le_of_ble_eq_true rfl, Nat.le_of_ble_eq_true rfl⟩ dX9_isDigit_5) (fun r_2 σ_1 H locs hw h => ?_)
  obtain ⟨g_3, hw⟩ := hw
  exact k_ir X (nb_n g_3) h hw dX9_isDigit_8
end
section
variable {p : Program} {l : Launch} {e : Env} {s : State} {m : MethodId} {args : Array Value} {below : List Frame} {meth : Method} {c : Code} {D : va_G} {ct : Nat → ClassId} {ad : Nat → Nat → Nat} {L : List (Nat × Nat)} {φ : Nat → Nat → Nat → Bool} {N0 : Nat}
variable {Q : Int → St → Prop}
set_option maxRecDepth 100000 in
set_option maxHeartbeats 4000000 in
theorem lb_X9_behindDigits_2 (X : Cx p s m meth c args cX9_behindDigits 3 (some .int) RX9 D ct L φ N0) : ∀ (n : Nat) (σ : St) (x2 : Int) (H : Heap) (locs : List Loc) (ls : Array Slot), wp_X9_behindDigits_2 Q n σ x2 → Hs D ct ad L φ N0 s.heap σ H locs → lv_has ls 3 [(0, .ref (ad 9 0)), (2, .int (iv x2))] → W p l e ({ frames := 2, cells := 0, slots := 0, locals := 42 } : Room) s m args below meth c H locs 0 0 (MQ below (Qi D ct ad L φ N0 Q) args s 0 0 (AA N0)) (F0 m 2 ls []) := by
  have hF := X.2.2.2.2.2.2.2.2.1
  intro n
  induction n with
  | zero => intro σ x2 H locs ls hw; exact hw.elim
  | succ n ih =>
    intro σ x2 H locs ls hw h hl
    unfold wp_X9_behindDigits_2 at hw
    refine lv_iload_n X.1 X.2.1 dX9_behindDigits_2 rfl (lv_at hl 1 rfl) ?_
    refine lv_aload_n X.1 X.2.1 dX9_behindDigits_3 rfl (lv_at hl 0 rfl) ?_
    refine r_get (ci := 9) X inw_9 h (hF.1 9 rfl).1 rfl rfl 1 (by decide) kw_257 rfl dX9_behindDigits_4 ?_
    obtain ⟨g_1, g_2, hwt, hwf⟩ := hw
    refine j_cmp_ge (tgt := 28) X g_1 g_2 dX9_behindDigits_7 (by decide) (fun c_9 => ?_) (fun c_9 => ?_)
    · have hw := hwt c_9
      refine lv_iload_n X.1 X.2.1 dX9_behindDigits_28 rfl (lv_at hl 1 rfl) ?_
      exact k_ir X rfl h hw dX9_behindDigits_29
    · have hw := hwf c_9
      refine lv_aload_n X.1 X.2.1 dX9_behindDigits_10 rfl (lv_at hl 0 rfl) ?_
      refine r_getR (ci := 9) X inw_9 h (hF.1 9 rfl).1 rfl rfl 0 (by decide) kw_256 rfl ((hF.1 9 rfl).2 0) dX9_behindDigits_11 ?_
      refine lv_iload_n X.1 X.2.1 dX9_behindDigits_14 rfl (lv_at hl 1 rfl) ?_
      obtain ⟨g_3, g_4, hw⟩ := hw
      refine r_iald (n := 300) X h (hF.1 76 rfl).1 rfl (by decide) g_3 g_4 dX9_behindDigits_15 ?_
      refine k_i h (r_S (As := [.int (iv (σ 76 0 (Int.toNat x2)))]) (rest := []) X h (c_X9_isDigit l D ct ad L φ N0 σ (σ 76 0 (Int.toNat x2)) _ hw) rfl rfl ⟨Nat.le_of_ble_eq_true rfl, Nat.le_of_ble_eq_true rfl⟩ kw_976 kw_977 kw_124 kw_978 pd_X9_isDigit rfl hl.1 rfl (Nat.le_of_ble_eq_true rfl) ⟨Nat.le_of_ble_eq_true rfl, Nat.le_of_ble_eq_true rfl⟩ dX9_behindDigits_16) (fun r_6 σ_5 H locs hw h => ?_)
      obtain ⟨g_7, hwt, hwf⟩ := hw
      refine j_if_eq (tgt := 28) X g_7 dX9_behindDigits_19 (by decide) (fun c_8 => ?_) (fun c_8 => ?_)
      · have hw := hwt c_8
        refine lv_iload_n X.1 X.2.1 dX9_behindDigits_28 rfl (lv_at hl 1 rfl) ?_
        exact k_ir X rfl h hw dX9_behindDigits_29
      · have hw := hwf c_8
        refine j_iinc (kk9 := 1) (lv' := [(2, .int (iv (x2 + 1))), (0, .ref (ad 9 0))]) X dX9_behindDigits_22 hl rfl (by decide) rfl (fun ls hl => ?_)
        refine lv_goto (tgt := 2) X.1 X.2.1 dX9_behindDigits_25 (by decide) ?_
        exact ih σ_5 (x2 + 1) _ _ _ hw h (lv_sub hl [1, 0] rfl)
theorem pd_X9_behindDigits : yX9_behindDigits.cls ≠ "java/lang/invoke/MethodHandle" ∧ yX9_behindDigits.cls ≠ "java/lang/invoke/VarHandle" ∧ (parseMethodDescriptor yX9_behindDigits.desc).map (fun d => d.parameters.length) = some 1 := by decide +kernel
set_option maxRecDepth 100000 in
set_option maxHeartbeats 4000000 in
theorem c_X9_behindDigits (l : Launch) (D : va_G) (ct : Nat → ClassId) (ad : Nat → Nat → Nat) (L : List (Nat × Nat)) (φ : Nat → Nat → Nat → Bool) (N0 : Nat) (σ : St) (x1 : Int) (Q : Int → St → Prop) (hw : wp_X9_behindDigits σ x1 Q) : Met l yX9_behindDigits (.code yX9_behindDigits cX9_behindDigits 3 (some .int) :: gw) ({ frames := 2, cells := 0, slots := 0, locals := 42 } : Room) (Pm D ct ad L φ N0 σ [.ref (ad 9 0), .int (iv x1)]) (Qi D ct ad L φ N0 Q) 0 0 (AA N0) := by
  refine m_of (by decide) (fun p e s m below meth c X hnm h => ?_)
  have hF := X.2.2.2.2.2.2.2.2.1
  have hl := lv_entry ([.ref (ad 9 0), .int (iv x1)]) (n := 3) (Nat.le_of_ble_eq_true rfl)
  rw [lg_entry_eq]
  generalize (lg_sl ([.ref (ad 9 0), .int (iv x1)]) ++ List.replicate (3 - (lg_sl ([.ref (ad 9 0), .int (iv x1)])).length) Slot.unset).toArray = ls at hl ⊢
  have hl : lv_has ls 3 [(0, .ref (ad 9 0)), (1, .int (iv x1))] := hl
  have h : Hs D ct ad L φ N0 s.heap σ s.heap [] := h
  unfold wp_X9_behindDigits at hw
  refine lv_iload_n X.1 X.2.1 dX9_behindDigits_0 rfl (lv_at hl 1 rfl) ?_
  refine lv_istore_n (lv' := [(2, .int (iv x1)), (0, .ref (ad 9 0)), (1, .int (iv x1))]) X.1 X.2.1 dX9_behindDigits_1 rfl hl (by decide) rfl (fun ls hl => ?_)
  exact hw.elim (fun n2 hw => lb_X9_behindDigits_2 X n2 σ x1 _ _ _ hw h (lv_sub hl [1, 0] rfl))
end
section
variable {p : Program} {l : Launch} {e : Env} {s : State} {m : MethodId} {args : Array Value} {below : List Frame} {meth : Method} {c : Code} {D : va_G} {ct : Nat → ClassId} {ad : Nat → Nat → Nat} {L : List (Nat × Nat)} {φ : Nat → Nat → Nat → Bool} {N0 : Nat}
variable {Q : Int → St → Prop}
theorem pd_J0_isLatin1_aae02 : yJ0_isLatin1_aae02.cls ≠ "java/lang/invoke/MethodHandle" ∧ yJ0_isLatin1_aae02.cls ≠ "java/lang/invoke/VarHandle" ∧ (parseMethodDescriptor yJ0_isLatin1_aae02.desc).map (fun d => d.parameters.length) = some 0 := by decide +kernel
set_option maxRecDepth 100000 in
set_option maxHeartbeats 4000000 in
theorem c_J0_isLatin1_aae02 (l : Launch) (D : va_G) (ct : Nat → ClassId) (ad : Nat → Nat → Nat) (L : List (Nat × Nat)) (φ : Nat → Nat → Nat → Bool) (N0 : Nat) (σ : St) (j0 : Nat) (Q : Int → St → Prop) (hw : wp_J0_isLatin1_aae02 σ j0 Q) : Met l yJ0_isLatin1_aae02 (.code yJ0_isLatin1_aae02 cJ0_isLatin1_aae02 1 (some .boolean) :: gw) ({ frames := 0, cells := 0, slots := 0, locals := 0 } : Room) (Pm D ct ad L φ N0 σ [.ref (ct (2000 + j0))]) (Qi D ct ad L φ N0 Q) 0 0 (AA N0) := by
  refine m_ofF (by decide +kernel) (fun p e s m below meth c X hnm h => ?_)
  have hF := X.2.2.2.2.2.2.2.2.1
  have hl := lv_entry ([.ref (ct (2000 + j0))]) (n := 1) (Nat.le_of_ble_eq_true rfl)
  rw [lg_entry_eq]
  generalize (lg_sl ([.ref (ct (2000 + j0))]) ++ List.replicate (1 - (lg_sl ([.ref (ct (2000 + j0))])).length) Slot.unset).toArray = ls at hl ⊢
  have hl : lv_has ls 1 [(0, .ref (ct (2000 + j0)))] := hl
  have h : Hs D ct ad L φ N0 s.heap σ s.heap [] := h
  unfold wp_J0_isLatin1_aae02 at hw
  refine r_gets (v := .int (iv 1)) X h X.2.2.2.2.2.2.2.1.2.2.2.2.1 kw_996 dJ0_isLatin1_aae02_0 ?_
  obtain ⟨hwt, hwf⟩ := hw
  refine j_if_eq (tgt := 17) X ⟨by decide, by decide⟩ dJ0_isLatin1_aae02_3 (by decide) (fun c_3 => ?_) (fun c_3 => ?_)
  · have hw := hwt c_3
    refine j_iconst X dJ0_isLatin1_aae02_17 ?_
    exact k_ir X rfl h hw dJ0_isLatin1_aae02_18
  · have hw := hwf c_3
    refine lv_aload_n X.1 X.2.1 dJ0_isLatin1_aae02_6 rfl (lv_at hl 0 rfl) ?_
    obtain ⟨g_1, hw⟩ := hw
    refine r_sget (v := .int (iv 0)) X h (X.2.2.2.2.2.2.2.1.2.2.2.2.2.1.1 j0 g_1).2.1 kw_2473 dJ0_isLatin1_aae02_7 ?_
    obtain ⟨hwt, hwf⟩ := hw
    refine j_if_ne (tgt := 17) X ⟨by decide, by decide⟩ dJ0_isLatin1_aae02_10 (by decide) (fun c_2 => ?_) (fun c_2 => ?_)
    · have hw := hwt c_2
      refine j_iconst X dJ0_isLatin1_aae02_17 ?_
      exact k_ir X rfl h hw dJ0_isLatin1_aae02_18
    · have hw := hwf c_2
      refine j_iconst X dJ0_isLatin1_aae02_13 ?_
      refine lv_goto (tgt := 18) X.1 X.2.1 dJ0_isLatin1_aae02_14 (by decide) ?_
      exact k_ir X rfl h hw dJ0_isLatin1_aae02_18
end
section
variable {p : Program} {l : Launch} {e : Env} {s : State} {m : MethodId} {args : Array Value} {below : List Frame} {meth : Method} {c : Code} {D : va_G} {ct : Nat → ClassId} {ad : Nat → Nat → Nat} {L : List (Nat × Nat)} {φ : Nat → Nat → Nat → Bool} {N0 : Nat}
variable {Q : Int → St → Prop}
theorem pd_J0_coder_7d493 : yJ0_coder_7d493.cls ≠ "java/lang/invoke/MethodHandle" ∧ yJ0_coder_7d493.cls ≠ "java/lang/invoke/VarHandle" ∧ (parseMethodDescriptor yJ0_coder_7d493.desc).map (fun d => d.parameters.length) = some 0 := by decide +kernel
set_option maxRecDepth 100000 in
set_option maxHeartbeats 4000000 in
theorem c_J0_coder_7d493 (l : Launch) (D : va_G) (ct : Nat → ClassId) (ad : Nat → Nat → Nat) (L : List (Nat × Nat)) (φ : Nat → Nat → Nat → Bool) (N0 : Nat) (σ : St) (j0 : Nat) (Q : Int → St → Prop) (hw : wp_J0_coder_7d493 σ j0 Q) : Met l yJ0_coder_7d493 (.code yJ0_coder_7d493 cJ0_coder_7d493 1 (some .byte) :: gw) ({ frames := 0, cells := 0, slots := 0, locals := 0 } : Room) (Pm D ct ad L φ N0 σ [.ref (ct (2000 + j0))]) (Qi D ct ad L φ N0 Q) 0 0 (AA N0) := by
  refine m_ofF (by decide +kernel) (fun p e s m below meth c X hnm h => ?_)
  have hF := X.2.2.2.2.2.2.2.2.1
  have hl := lv_entry ([.ref (ct (2000 + j0))]) (n := 1) (Nat.le_of_ble_eq_true rfl)
  rw [lg_entry_eq]
  generalize (lg_sl ([.ref (ct (2000 + j0))]) ++ List.replicate (1 - (lg_sl ([.ref (ct (2000 + j0))])).length) Slot.unset).toArray = ls at hl ⊢
  have hl : lv_has ls 1 [(0, .ref (ct (2000 + j0)))] := hl
  have h : Hs D ct ad L φ N0 s.heap σ s.heap [] := h
  unfold wp_J0_coder_7d493 at hw
  refine r_gets (v := .int (iv 1)) X h X.2.2.2.2.2.2.2.1.2.2.2.2.1 kw_996 dJ0_coder_7d493_0 ?_
  obtain ⟨hwt, hwf⟩ := hw
  refine j_if_eq (tgt := 13) X ⟨by decide, by decide⟩ dJ0_coder_7d493_3 (by decide) (fun c_2 => ?_) (fun c_2 => ?_)
  · have hw := hwt c_2
    refine j_iconst X dJ0_coder_7d493_13 ?_
    exact k_ir X rfl h hw dJ0_coder_7d493_14
  · have hw := hwf c_2
    refine lv_aload_n X.1 X.2.1 dJ0_coder_7d493_6 rfl (lv_at hl 0 rfl) ?_
    obtain ⟨g_1, hw⟩ := hw
    refine r_sget (v := .int (iv 0)) X h (X.2.2.2.2.2.2.2.1.2.2.2.2.2.1.1 j0 g_1).2.1 kw_2473 dJ0_coder_7d493_7 ?_
    refine lv_goto (tgt := 14) X.1 X.2.1 dJ0_coder_7d493_10 (by decide) ?_
    exact k_ir X rfl h hw dJ0_coder_7d493_14
end
section
variable {p : Program} {l : Launch} {e : Env} {s : State} {m : MethodId} {args : Array Value} {below : List Frame} {meth : Method} {c : Code} {D : va_G} {ct : Nat → ClassId} {ad : Nat → Nat → Nat} {L : List (Nat × Nat)} {φ : Nat → Nat → Nat → Bool} {N0 : Nat}
variable {Q : Int → St → Prop}
theorem pd_J0_length_8abf5 : yJ0_length_8abf5.cls ≠ "java/lang/invoke/MethodHandle" ∧ yJ0_length_8abf5.cls ≠ "java/lang/invoke/VarHandle" ∧ (parseMethodDescriptor yJ0_length_8abf5.desc).map (fun d => d.parameters.length) = some 0 := by decide +kernel
set_option maxRecDepth 100000 in
set_option maxHeartbeats 4000000 in
theorem c_J0_length_8abf5 (l : Launch) (D : va_G) (ct : Nat → ClassId) (ad : Nat → Nat → Nat) (L : List (Nat × Nat)) (φ : Nat → Nat → Nat → Bool) (N0 : Nat) (σ : St) (j0 : Nat) (Q : Int → St → Prop) (hw : wp_J0_length_8abf5 σ j0 Q) : Met l yJ0_length_8abf5 (.code yJ0_length_8abf5 cJ0_length_8abf5 1 (some .int) :: gw) ({ frames := 1, cells := 0, slots := 0, locals := 20 } : Room) (Pm D ct ad L φ N0 σ [.ref (ct (2000 + j0))]) (Qi D ct ad L φ N0 Q) 0 0 (AA N0) := by
  refine m_ofF (by decide +kernel) (fun p e s m below meth c X hnm h => ?_)
  have hF := X.2.2.2.2.2.2.2.2.1
  have hl := lv_entry ([.ref (ct (2000 + j0))]) (n := 1) (Nat.le_of_ble_eq_true rfl)
  rw [lg_entry_eq]
  generalize (lg_sl ([.ref (ct (2000 + j0))]) ++ List.replicate (1 - (lg_sl ([.ref (ct (2000 + j0))])).length) Slot.unset).toArray = ls at hl ⊢
  have hl : lv_has ls 1 [(0, .ref (ct (2000 + j0)))] := hl
  have h : Hs D ct ad L φ N0 s.heap σ s.heap [] := h
  unfold wp_J0_length_8abf5 at hw
  refine lv_aload_n X.1 X.2.1 dJ0_length_8abf5_0 rfl (lv_at hl 0 rfl) ?_
  obtain ⟨g_1, hw⟩ := hw
  refine r_sget (v := .ref (ct (3000 + j0))) X h (X.2.2.2.2.2.2.2.1.2.2.2.2.2.1.1 j0 g_1).2.2.1 kw_2474 dJ0_length_8abf5_1 ?_
  obtain ⟨g_2, hw⟩ := hw
  refine r_slen X h g_2 dJ0_length_8abf5_4 ?_
  refine lv_aload_n X.1 X.2.1 dJ0_length_8abf5_5 rfl (lv_at hl 0 rfl) ?_
  obtain ⟨g_3, hw⟩ := hw
  refine k_i h (r_VS (i := j0) (As := []) (rest := [.int (iv (slen j0))]) X h (c_J0_coder_7d493 l D ct ad L φ N0 σ j0 _ hw) rfl rfl ⟨Nat.le_of_ble_eq_true rfl, Nat.le_of_ble_eq_true rfl⟩ kw_1002 kw_1003 kw_1004 kw_133 kw_1005 ⟨rfl, pd_J0_coder_7d493⟩ g_3 rfl hl.1 rfl (Nat.le_of_ble_eq_true rfl) ⟨Nat.le_of_ble_eq_true rfl, Nat.le_of_ble_eq_true rfl⟩ dJ0_length_8abf5_6) (fun r_5 σ_4 H locs hw h => ?_)
  refine j_ishr X dJ0_length_8abf5_9 ?_
  exact k_ir X rfl h hw dJ0_length_8abf5_10
end
section
variable {p : Program} {l : Launch} {e : Env} {s : State} {m : MethodId} {args : Array Value} {below : List Frame} {meth : Method} {c : Code} {D : va_G} {ct : Nat → ClassId} {ad : Nat → Nat → Nat} {L : List (Nat × Nat)} {φ : Nat → Nat → Nat → Bool} {N0 : Nat}
variable {Q : Int → St → Prop}
theorem pd_J1_canEncode_9a6ad : yJ1_canEncode_9a6ad.cls ≠ "java/lang/invoke/MethodHandle" ∧ yJ1_canEncode_9a6ad.cls ≠ "java/lang/invoke/VarHandle" ∧ (parseMethodDescriptor yJ1_canEncode_9a6ad.desc).map (fun d => d.parameters.length) = some 1 := by decide +kernel
set_option maxRecDepth 100000 in
set_option maxHeartbeats 4000000 in
theorem c_J1_canEncode_9a6ad (l : Launch) (D : va_G) (ct : Nat → ClassId) (ad : Nat → Nat → Nat) (L : List (Nat × Nat)) (φ : Nat → Nat → Nat → Bool) (N0 : Nat) (σ : St) (x0 : Int) (Q : Int → St → Prop) (hw : wp_J1_canEncode_9a6ad σ x0 Q) : Met l yJ1_canEncode_9a6ad (.code yJ1_canEncode_9a6ad cJ1_canEncode_9a6ad 1 (some .boolean) :: gw) ({ frames := 0, cells := 0, slots := 0, locals := 0 } : Room) (Pm D ct ad L φ N0 σ [.int (iv x0)]) (Qi D ct ad L φ N0 Q) 0 0 (AA N0) := by
  refine m_ofF (by decide +kernel) (fun p e s m below meth c X hnm h => ?_)
  have hF := X.2.2.2.2.2.2.2.2.1
  have hl := lv_entry ([.int (iv x0)]) (n := 1) (Nat.le_of_ble_eq_true rfl)
  rw [lg_entry_eq]
  generalize (lg_sl ([.int (iv x0)]) ++ List.replicate (1 - (lg_sl ([.int (iv x0)])).length) Slot.unset).toArray = ls at hl ⊢
  have hl : lv_has ls 1 [(0, .int (iv x0))] := hl
  have h : Hs D ct ad L φ N0 s.heap σ s.heap [] := h
  unfold wp_J1_canEncode_9a6ad at hw
  refine lv_iload_n X.1 X.2.1 dJ1_canEncode_9a6ad_0 rfl (lv_at hl 0 rfl) ?_
  obtain ⟨g_1, hwt, hwf⟩ := hw
  refine j_if_lt (tgt := 15) X g_1 dJ1_canEncode_9a6ad_1 (by decide) (fun c_4 => ?_) (fun c_4 => ?_)
  · have hw := hwt c_4
    refine j_iconst X dJ1_canEncode_9a6ad_15 ?_
    exact k_ir X rfl h hw dJ1_canEncode_9a6ad_16
  · have hw := hwf c_4
    refine lv_iload_n X.1 X.2.1 dJ1_canEncode_9a6ad_4 rfl (lv_at hl 0 rfl) ?_
    refine j_sipush X dJ1_canEncode_9a6ad_5 (by decide) ?_
    obtain ⟨g_2, hwt, hwf⟩ := hw
    refine j_cmp_gt (tgt := 15) X g_2 ⟨by decide, by decide⟩ dJ1_canEncode_9a6ad_8 (by decide) (fun c_3 => ?_) (fun c_3 => ?_)
    · have hw := hwt c_3
      refine j_iconst X dJ1_canEncode_9a6ad_15 ?_
      exact k_ir X rfl h hw dJ1_canEncode_9a6ad_16
    · have hw := hwf c_3
      refine j_iconst X dJ1_canEncode_9a6ad_11 ?_
      refine lv_goto (tgt := 16) X.1 X.2.1 dJ1_canEncode_9a6ad_12 (by decide) ?_
      exact k_ir X rfl h hw dJ1_canEncode_9a6ad_16
end
section
variable {p : Program} {l : Launch} {e : Env} {s : State} {m : MethodId} {args : Array Value} {below : List Frame} {meth : Method} {c : Code} {D : va_G} {ct : Nat → ClassId} {ad : Nat → Nat → Nat} {L : List (Nat × Nat)} {φ : Nat → Nat → Nat → Bool} {N0 : Nat}
variable {Q : Int → St → Prop}
set_option maxRecDepth 100000 in
set_option maxHeartbeats 4000000 in
theorem lb_J1_indexOfChar_4cfef_7 (X : Cx p s m meth c args cJ1_indexOfChar_4cfef 6 (some .int) RJ1 D ct L φ N0) : ∀ (n : Nat) (σ : St) (j0 : Nat) (x3 : Int) (x4 : Int) (x5 : Int) (H : Heap) (locs : List Loc) (ls : Array Slot), wp_J1_indexOfChar_4cfef_7 Q n σ j0 x3 x4 x5 → Hs D ct ad L φ N0 s.heap σ H locs → lv_has ls 6 [(0, .ref (ct (3000 + j0))), (3, .int (iv x3)), (4, .int (iv x4)), (5, .int (iv x5))] → W p l e ({ frames := 0, cells := 0, slots := 0, locals := 0 } : Room) s m args below meth c H locs 0 0 (MQ below (Qi D ct ad L φ N0 Q) args s 0 0 (AA N0)) (F0 m 7 ls []) := by
  have hF := X.2.2.2.2.2.2.2.2.1
  intro n
  induction n with
  | zero => intro σ j0 x3 x4 x5 H locs ls hw; exact hw.elim
  | succ n ih =>
    intro σ j0 x3 x4 x5 H locs ls hw h hl
    unfold wp_J1_indexOfChar_4cfef_7 at hw
    refine lv_iload X.1 X.2.1 dJ1_indexOfChar_4cfef_7 (lv_at hl 3 rfl) ?_
    refine lv_iload_n X.1 X.2.1 dJ1_indexOfChar_4cfef_9 rfl (lv_at hl 1 rfl) ?_
    obtain ⟨g_1, g_2, hwt, hwf⟩ := hw
    refine j_cmp_ge (tgt := 31) X g_1 g_2 dJ1_indexOfChar_4cfef_10 (by decide) (fun c_9 => ?_) (fun c_9 => ?_)
    · have hw := hwt c_9
      refine j_iconst X dJ1_indexOfChar_4cfef_31 ?_
      exact k_ir X rfl h hw dJ1_indexOfChar_4cfef_32
    · have hw := hwf c_9
      refine lv_aload_n X.1 X.2.1 dJ1_indexOfChar_4cfef_13 rfl (lv_at hl 0 rfl) ?_
      refine lv_iload X.1 X.2.1 dJ1_indexOfChar_4cfef_14 (lv_at hl 3 rfl) ?_
      obtain ⟨g_3, g_4, g_5, hw⟩ := hw
      refine r_sb X h g_3 g_4 g_5 dJ1_indexOfChar_4cfef_16 ?_
      refine lv_iload X.1 X.2.1 dJ1_indexOfChar_4cfef_17 (lv_at hl 2 rfl) ?_
      obtain ⟨g_6, g_7, hwt, hwf⟩ := hw
      refine j_cmp_ne (tgt := 25) X g_6 g_7 dJ1_indexOfChar_4cfef_19 (by decide) (fun c_8 => ?_) (fun c_8 => ?_)
      · have hw := hwt c_8
        refine j_iinc (kk9 := 3) (lv' := [(5, .int (iv (x5 + 1))), (0, .ref (ct (3000 + j0))), (3, .int (iv x3)), (4, .int (iv x4))]) X dJ1_indexOfChar_4cfef_25 hl rfl (by decide) rfl (fun ls hl => ?_)
        refine lv_goto (tgt := 7) X.1 X.2.1 dJ1_indexOfChar_4cfef_28 (by decide) ?_
        exact ih σ j0 x3 x4 (x5 + 1) _ _ _ hw h (lv_sub hl [1, 2, 3, 0] rfl)
      · have hw := hwf c_8
        refine lv_iload X.1 X.2.1 dJ1_indexOfChar_4cfef_22 (lv_at hl 3 rfl) ?_
        exact k_ir X rfl h hw dJ1_indexOfChar_4cfef_24
theorem pd_J1_indexOfChar_4cfef : yJ1_indexOfChar_4cfef.cls ≠ "java/lang/invoke/MethodHandle" ∧ yJ1_indexOfChar_4cfef.cls ≠ "java/lang/invoke/VarHandle" ∧ (parseMethodDescriptor yJ1_indexOfChar_4cfef.desc).map (fun d => d.parameters.length) = some 4 := by decide +kernel
set_option maxRecDepth 100000 in
set_option maxHeartbeats 4000000 in
theorem c_J1_indexOfChar_4cfef (l : Launch) (D : va_G) (ct : Nat → ClassId) (ad : Nat → Nat → Nat) (L : List (Nat × Nat)) (φ : Nat → Nat → Nat → Bool) (N0 : Nat) (σ : St) (j0 : Nat) (x1 : Int) (x2 : Int) (x3 : Int) (Q : Int → St → Prop) (hw : wp_J1_indexOfChar_4cfef σ j0 x1 x2 x3 Q) : Met l yJ1_indexOfChar_4cfef (.code yJ1_indexOfChar_4cfef cJ1_indexOfChar_4cfef 6 (some .int) :: gw) ({ frames := 0, cells := 0, slots := 0, locals := 0 } : Room) (Pm D ct ad L φ N0 σ [.ref (ct (3000 + j0)), .int (iv x1), .int (iv x2), .int (iv x3)]) (Qi D ct ad L φ N0 Q) 0 0 (AA N0) := by
  refine m_ofF (by decide +kernel) (fun p e s m below meth c X hnm h => ?_)
  have hF := X.2.2.2.2.2.2.2.2.1
  have hl := lv_entry ([.ref (ct (3000 + j0)), .int (iv x1), .int (iv x2), .int (iv x3)]) (n := 6) (Nat.le_of_ble_eq_true rfl)
  rw [lg_entry_eq]
  generalize (lg_sl ([.ref (ct (3000 + j0)), .int (iv x1), .int (iv x2), .int (iv x3)]) ++ List.replicate (6 - (lg_sl ([.ref (ct (3000 + j0)), .int (iv x1), .int (iv x2), .int (iv x3)])).length) Slot.unset).toArray = ls at hl ⊢
  have hl : lv_has ls 6 [(0, .ref (ct (3000 + j0))), (1, .int (iv x1)), (2, .int (iv x2)), (3, .int (iv x3))] := hl
  have h : Hs D ct ad L φ N0 s.heap σ s.heap [] := h
  unfold wp_J1_indexOfChar_4cfef at hw
  refine lv_iload_n X.1 X.2.1 dJ1_indexOfChar_4cfef_0 rfl (lv_at hl 1 rfl) ?_
  refine j_i2b X dJ1_indexOfChar_4cfef_1 ?_
  refine j_bind (fun v_10 ev_10 => ?_)
  have hw := hw v_10 ev_10
  refine lv_istore (lv' := [(4, .int (iv v_10)), (0, .ref (ct (3000 + j0))), (1, .int (iv x1)), (2, .int (iv x2)), (3, .int (iv x3))]) X.1 X.2.1 dJ1_indexOfChar_4cfef_2 hl (by decide) rfl (fun ls hl => ?_)
  refine lv_iload_n X.1 X.2.1 dJ1_indexOfChar_4cfef_4 rfl (lv_at hl 3 rfl) ?_
  refine lv_istore (lv' := [(5, .int (iv x2)), (4, .int (iv v_10)), (0, .ref (ct (3000 + j0))), (1, .int (iv x1)), (2, .int (iv x2)), (3, .int (iv x3))]) X.1 X.2.1 dJ1_indexOfChar_4cfef_5 hl (by decide) rfl (fun ls hl => ?_)
  exact hw.elim (fun n7 hw => lb_J1_indexOfChar_4cfef_7 X n7 σ j0 x3 v_10 x2 _ _ _ hw h (lv_sub hl [2, 5, 1, 0] rfl))
end
section
variable {p : Program} {l : Launch} {e : Env} {s : State} {m : MethodId} {args : Array Value} {below : List Frame} {meth : Method} {c : Code} {D : va_G} {ct : Nat → ClassId} {ad : Nat → Nat → Nat} {L : List (Nat × Nat)} {φ : Nat → Nat → Nat → Bool} {N0 : Nat}
variable {Q : Int → St → Prop}
theorem pd_J1_indexOf_4cfef : yJ1_indexOf_4cfef.cls ≠ "java/lang/invoke/MethodHandle" ∧ yJ1_indexOf_4cfef.cls ≠ "java/lang/invoke/VarHandle" ∧ (parseMethodDescriptor yJ1_indexOf_4cfef.desc).map (fun d => d.parameters.length) = some 4 := by decide +kernel
set_option maxRecDepth 100000 in
set_option maxHeartbeats 4000000 in
theorem c_J1_indexOf_4cfef (l : Launch) (D : va_G) (ct : Nat → ClassId) (ad : Nat → Nat → Nat) (L : List (Nat × Nat)) (φ : Nat → Nat → Nat → Bool) (N0 : Nat) (σ : St) (j0 : Nat) (x1 : Int) (x2 : Int) (x3 : Int) (Q : Int → St → Prop) (hw : wp_J1_indexOf_4cfef σ j0 x1 x2 x3 Q) : Met l yJ1_indexOf_4cfef (.code yJ1_indexOf_4cfef cJ1_indexOf_4cfef 4 (some .int) :: gw) ({ frames := 1, cells := 0, slots := 0, locals := 25 } : Room) (Pm D ct ad L φ N0 σ [.ref (ct (3000 + j0)), .int (iv x1), .int (iv x2), .int (iv x3)]) (Qi D ct ad L φ N0 Q) 0 0 (AA N0) := by
  refine m_ofF (by decide +kernel) (fun p e s m below meth c X hnm h => ?_)
  have hF := X.2.2.2.2.2.2.2.2.1
  have hl := lv_entry ([.ref (ct (3000 + j0)), .int (iv x1), .int (iv x2), .int (iv x3)]) (n := 4) (Nat.le_of_ble_eq_true rfl)
  rw [lg_entry_eq]
  generalize (lg_sl ([.ref (ct (3000 + j0)), .int (iv x1), .int (iv x2), .int (iv x3)]) ++ List.replicate (4 - (lg_sl ([.ref (ct (3000 + j0)), .int (iv x1), .int (iv x2), .int (iv x3)])).length) Slot.unset).toArray = ls at hl ⊢
  have hl : lv_has ls 4 [(0, .ref (ct (3000 + j0))), (1, .int (iv x1)), (2, .int (iv x2)), (3, .int (iv x3))] := hl
  have h : Hs D ct ad L φ N0 s.heap σ s.heap [] := h
  unfold wp_J1_indexOf_4cfef at hw
  refine lv_iload_n X.1 X.2.1 dJ1_indexOf_4cfef_0 rfl (lv_at hl 1 rfl) ?_
  refine k_i h (r_S (As := [.int (iv x1)]) (rest := []) X h (c_J1_canEncode_9a6ad l D ct ad L φ N0 σ x1 _ hw) rfl rfl ⟨Nat.le_of_ble_eq_true rfl, Nat.le_of_ble_eq_true rfl⟩ kw_1009 kw_1010 kw_134 kw_1011 pd_J1_canEncode_9a6ad rfl hl.1 rfl (Nat.le_of_ble_eq_true rfl) ⟨Nat.le_of_ble_eq_true rfl, Nat.le_of_ble_eq_true rfl⟩ dJ1_indexOf_4cfef_1) (fun r_2 σ_1 H locs hw h => ?_)
  obtain ⟨g_3, hwt, hwf⟩ := hw
  refine j_if_ne (tgt := 9) X g_3 dJ1_indexOf_4cfef_4 (by decide) (fun c_14 => ?_) (fun c_14 => ?_)
  · have hw := hwt c_14
    refine lv_iload_n X.1 X.2.1 dJ1_indexOf_4cfef_9 rfl (lv_at hl 2 rfl) ?_
    refine j_iconst X dJ1_indexOf_4cfef_10 ?_
    refine k_i h (r_S (As := [.int (iv x2), .int (iv 0)]) (rest := []) X h (c_J9_max_7cf53 l D ct ad L φ N0 σ_1 x2 0 _ hw) rfl rfl ⟨Nat.le_of_ble_eq_true rfl, Nat.le_of_ble_eq_true rfl⟩ kw_1012 kw_619 kw_130 kw_620 pd_J9_max_7cf53 rfl hl.1 rfl (Nat.le_of_ble_eq_true rfl) ⟨Nat.le_of_ble_eq_true rfl, Nat.le_of_ble_eq_true rfl⟩ dJ1_indexOf_4cfef_11) (fun r_5 σ_4 H locs hw h => ?_)
    refine lv_istore_n (lv' := [(2, .int (iv r_5)), (0, .ref (ct (3000 + j0))), (1, .int (iv x1)), (3, .int (iv x3))]) X.1 X.2.1 dJ1_indexOf_4cfef_14 rfl hl (by decide) rfl (fun ls hl => ?_)
    refine lv_iload_n X.1 X.2.1 dJ1_indexOf_4cfef_15 rfl (lv_at hl 3 rfl) ?_
    refine lv_aload_n X.1 X.2.1 dJ1_indexOf_4cfef_16 rfl (lv_at hl 1 rfl) ?_
    obtain ⟨g_6, hw⟩ := hw
    refine r_slen X h g_6 dJ1_indexOf_4cfef_17 ?_
    refine k_i h (r_S (As := [.int (iv x3), .int (iv (slen j0))]) (rest := []) X h (c_J9_min_7cf53 l D ct ad L φ N0 σ_4 x3 (slen j0) _ hw) rfl rfl ⟨Nat.le_of_ble_eq_true rfl, Nat.le_of_ble_eq_true rfl⟩ kw_1013 kw_918 kw_130 kw_919 pd_J9_min_7cf53 rfl hl.1 rfl (Nat.le_of_ble_eq_true rfl) ⟨Nat.le_of_ble_eq_true rfl, Nat.le_of_ble_eq_true rfl⟩ dJ1_indexOf_4cfef_18) (fun r_8 σ_7 H locs hw h => ?_)
    refine lv_istore_n (lv' := [(3, .int (iv r_8)), (2, .int (iv r_5)), (0, .ref (ct (3000 + j0))), (1, .int (iv x1))]) X.1 X.2.1 dJ1_indexOf_4cfef_21 rfl hl (by decide) rfl (fun ls hl => ?_)
    refine lv_iload_n X.1 X.2.1 dJ1_indexOf_4cfef_22 rfl (lv_at hl 1 rfl) ?_
    refine lv_iload_n X.1 X.2.1 dJ1_indexOf_4cfef_23 rfl (lv_at hl 0 rfl) ?_
    obtain ⟨g_9, g_10, hwt, hwf⟩ := hw
    refine j_cmp_lt (tgt := 29) X g_9 g_10 dJ1_indexOf_4cfef_24 (by decide) (fun c_13 => ?_) (fun c_13 => ?_)
    · have hw := hwt c_13
      refine lv_aload_n X.1 X.2.1 dJ1_indexOf_4cfef_29 rfl (lv_at hl 2 rfl) ?_
      refine lv_iload_n X.1 X.2.1 dJ1_indexOf_4cfef_30 rfl (lv_at hl 3 rfl) ?_
      refine lv_iload_n X.1 X.2.1 dJ1_indexOf_4cfef_31 rfl (lv_at hl 1 rfl) ?_
      refine lv_iload_n X.1 X.2.1 dJ1_indexOf_4cfef_32 rfl (lv_at hl 0 rfl) ?_
      refine k_i h (r_S (As := [.ref (ct (3000 + j0)), .int (iv x1), .int (iv r_5), .int (iv r_8)]) (rest := []) X h (c_J1_indexOfChar_4cfef l D ct ad L φ N0 σ_7 j0 x1 r_5 r_8 _ hw) rfl rfl ⟨Nat.le_of_ble_eq_true rfl, Nat.le_of_ble_eq_true rfl⟩ kw_1014 kw_1015 kw_134 kw_1016 pd_J1_indexOfChar_4cfef rfl hl.1 rfl (Nat.le_of_ble_eq_true rfl) ⟨Nat.le_of_ble_eq_true rfl, Nat.le_of_ble_eq_true rfl⟩ dJ1_indexOf_4cfef_33) (fun r_12 σ_11 H locs hw h => ?_)
      exact k_ir X rfl h hw dJ1_indexOf_4cfef_36
    · have hw := hwf c_13
      refine j_iconst X dJ1_indexOf_4cfef_27 ?_
      exact k_ir X rfl h hw dJ1_indexOf_4cfef_28
  · have hw := hwf c_14
    refine j_iconst X dJ1_indexOf_4cfef_7 ?_
    exact k_ir X rfl h hw dJ1_indexOf_4cfef_8
end
section
variable {p : Program} {l : Launch} {e : Env} {s : State} {m : MethodId} {args : Array Value} {below : List Frame} {meth : Method} {c : Code} {D : va_G} {ct : Nat → ClassId} {ad : Nat → Nat → Nat} {L : List (Nat × Nat)} {φ : Nat → Nat → Nat → Bool} {N0 : Nat}
variable {Q : St → Prop}
theorem pd_J0_checkBoundsBeginEnd_23922 : yJ0_checkBoundsBeginEnd_23922.cls ≠ "java/lang/invoke/MethodHandle" ∧ yJ0_checkBoundsBeginEnd_23922.cls ≠ "java/lang/invoke/VarHandle" ∧ (parseMethodDescriptor yJ0_checkBoundsBeginEnd_23922.desc).map (fun d => d.parameters.length) = some 3 := by decide +kernel
set_option maxRecDepth 100000 in
set_option maxHeartbeats 4000000 in
theorem c_J0_checkBoundsBeginEnd_23922 (l : Launch) (D : va_G) (ct : Nat → ClassId) (ad : Nat → Nat → Nat) (L : List (Nat × Nat)) (φ : Nat → Nat → Nat → Bool) (N0 : Nat) (σ : St) (x0 : Int) (x1 : Int) (x2 : Int) (Q : St → Prop) (hw : wp_J0_checkBoundsBeginEnd_23922 σ x0 x1 x2 Q) : Met l yJ0_checkBoundsBeginEnd_23922 (.code yJ0_checkBoundsBeginEnd_23922 cJ0_checkBoundsBeginEnd_23922 3 none :: gw) ({ frames := 0, cells := 0, slots := 0, locals := 0 } : Room) (Pm D ct ad L φ N0 σ [.int (iv x0), .int (iv x1), .int (iv x2)]) (Qv D ct ad L φ N0 Q) 0 0 (AA N0) := by
  refine m_ofF (by decide +kernel) (fun p e s m below meth c X hnm h => ?_)
  have hF := X.2.2.2.2.2.2.2.2.1
  have hl := lv_entry ([.int (iv x0), .int (iv x1), .int (iv x2)]) (n := 3) (Nat.le_of_ble_eq_true rfl)
  rw [lg_entry_eq]
  generalize (lg_sl ([.int (iv x0), .int (iv x1), .int (iv x2)]) ++ List.replicate (3 - (lg_sl ([.int (iv x0), .int (iv x1), .int (iv x2)])).length) Slot.unset).toArray = ls at hl ⊢
  have hl : lv_has ls 3 [(0, .int (iv x0)), (1, .int (iv x1)), (2, .int (iv x2))] := hl
  have h : Hs D ct ad L φ N0 s.heap σ s.heap [] := h
  unfold wp_J0_checkBoundsBeginEnd_23922 at hw
  refine lv_iload_n X.1 X.2.1 dJ0_checkBoundsBeginEnd_23922_0 rfl (lv_at hl 0 rfl) ?_
  refine lv_iload_n X.1 X.2.1 dJ0_checkBoundsBeginEnd_23922_1 rfl (lv_at hl 1 rfl) ?_
  refine lv_iload_n X.1 X.2.1 dJ0_checkBoundsBeginEnd_23922_2 rfl (lv_at hl 2 rfl) ?_
  obtain ⟨hwt, hwf⟩ := hw
  refine r_gets (v := fvv ct) X h X.2.2.2.2.2.2.2.1.2.2.2.2.2.2.1 kw_1035 dJ0_checkBoundsBeginEnd_23922_3 ?_
  by_cases c_1 : ct 1002 = 0
  · rw [fvv_n c_1]
    have hw := hwt
    exact hw.elim
  · rw [fvv_r c_1]
    have hw := hwf
    exact hw.elim
end
section
variable {p : Program} {l : Launch} {e : Env} {s : State} {m : MethodId} {args : Array Value} {below : List Frame} {meth : Method} {c : Code} {D : va_G} {ct : Nat → ClassId} {ad : Nat → Nat → Nat} {L : List (Nat × Nat)} {φ : Nat → Nat → Nat → Bool} {N0 : Nat}
variable {Q : Int → St → Prop}
theorem pd_J0_indexOf_7cf53 : yJ0_indexOf_7cf53.cls ≠ "java/lang/invoke/MethodHandle" ∧ yJ0_indexOf_7cf53.cls ≠ "java/lang/invoke/VarHandle" ∧ (parseMethodDescriptor yJ0_indexOf_7cf53.desc).map (fun d => d.parameters.length) = some 2 := by decide +kernel
set_option maxRecDepth 100000 in
set_option maxHeartbeats 4000000 in
theorem c_J0_indexOf_7cf53 (l : Launch) (D : va_G) (ct : Nat → ClassId) (ad : Nat → Nat → Nat) (L : List (Nat × Nat)) (φ : Nat → Nat → Nat → Bool) (N0 : Nat) (σ : St) (j0 : Nat) (x1 : Int) (x2 : Int) (Q : Int → St → Prop) (hw : wp_J0_indexOf_7cf53 σ j0 x1 x2 Q) : Met l yJ0_indexOf_7cf53 (.code yJ0_indexOf_7cf53 cJ0_indexOf_7cf53 3 (some .int) :: gw) ({ frames := 2, cells := 0, slots := 0, locals := 48 } : Room) (Pm D ct ad L φ N0 σ [.ref (ct (2000 + j0)), .int (iv x1), .int (iv x2)]) (Qi D ct ad L φ N0 Q) 0 0 (AA N0) := by
  refine m_ofF (by decide +kernel) (fun p e s m below meth c X hnm h => ?_)
  have hF := X.2.2.2.2.2.2.2.2.1
  have hl := lv_entry ([.ref (ct (2000 + j0)), .int (iv x1), .int (iv x2)]) (n := 3) (Nat.le_of_ble_eq_true rfl)
  rw [lg_entry_eq]
  generalize (lg_sl ([.ref (ct (2000 + j0)), .int (iv x1), .int (iv x2)]) ++ List.replicate (3 - (lg_sl ([.ref (ct (2000 + j0)), .int (iv x1), .int (iv x2)])).length) Slot.unset).toArray = ls at hl ⊢
  have hl : lv_has ls 3 [(0, .ref (ct (2000 + j0))), (1, .int (iv x1)), (2, .int (iv x2))] := hl
  have h : Hs D ct ad L φ N0 s.heap σ s.heap [] := h
  unfold wp_J0_indexOf_7cf53 at hw
  refine lv_aload_n X.1 X.2.1 dJ0_indexOf_7cf53_0 rfl (lv_at hl 0 rfl) ?_
  obtain ⟨g_1, hw⟩ := hw
  refine k_i h (r_VS (i := j0) (As := []) (rest := []) X h (c_J0_isLatin1_aae02 l D ct ad L φ N0 σ j0 _ hw) rfl rfl ⟨Nat.le_of_ble_eq_true rfl, Nat.le_of_ble_eq_true rfl⟩ kw_992 kw_993 kw_994 kw_133 kw_995 ⟨rfl, pd_J0_isLatin1_aae02⟩ g_1 rfl hl.1 rfl (Nat.le_of_ble_eq_true rfl) ⟨Nat.le_of_ble_eq_true rfl, Nat.le_of_ble_eq_true rfl⟩ dJ0_indexOf_7cf53_1) (fun r_3 σ_2 H locs hw h => ?_)
  obtain ⟨g_4, hwt, hwf⟩ := hw
  refine j_if_eq (tgt := 23) X g_4 dJ0_indexOf_7cf53_4 (by decide) (fun c_15 => ?_) (fun c_15 => ?_)
  · have hw := hwt c_15
    refine lv_aload_n X.1 X.2.1 dJ0_indexOf_7cf53_23 rfl (lv_at hl 0 rfl) ?_
    obtain ⟨g_5, hw⟩ := hw
    refine r_sget (v := .ref (ct (3000 + j0))) X h (X.2.2.2.2.2.2.2.1.2.2.2.2.2.1.1 j0 g_5).2.2.1 kw_2474 dJ0_indexOf_7cf53_24 ?_
    refine lv_iload_n X.1 X.2.1 dJ0_indexOf_7cf53_27 rfl (lv_at hl 1 rfl) ?_
    refine lv_iload_n X.1 X.2.1 dJ0_indexOf_7cf53_28 rfl (lv_at hl 2 rfl) ?_
    refine lv_aload_n X.1 X.2.1 dJ0_indexOf_7cf53_29 rfl (lv_at hl 0 rfl) ?_
    obtain ⟨g_6, hw⟩ := hw
    refine k_i h (r_VS (i := j0) (As := []) (rest := [.int (iv x2), .int (iv x1), .ref (ct (3000 + j0))]) X h (c_J0_length_8abf5 l D ct ad L φ N0 σ_2 j0 _ hw) rfl rfl ⟨Nat.le_of_ble_eq_true rfl, Nat.le_of_ble_eq_true rfl⟩ kw_998 kw_999 kw_1000 kw_133 kw_1001 ⟨rfl, pd_J0_length_8abf5⟩ g_6 rfl hl.1 rfl (Nat.le_of_ble_eq_true rfl) ⟨Nat.le_of_ble_eq_true rfl, Nat.le_of_ble_eq_true rfl⟩ dJ0_indexOf_7cf53_30) (fun r_8 σ_7 H locs hw h => ?_)
    exact hw.elim
  · have hw := hwf c_15
    refine lv_aload_n X.1 X.2.1 dJ0_indexOf_7cf53_7 rfl (lv_at hl 0 rfl) ?_
    obtain ⟨g_9, hw⟩ := hw
    refine r_sget (v := .ref (ct (3000 + j0))) X h (X.2.2.2.2.2.2.2.1.2.2.2.2.2.1.1 j0 g_9).2.2.1 kw_2474 dJ0_indexOf_7cf53_8 ?_
    refine lv_iload_n X.1 X.2.1 dJ0_indexOf_7cf53_11 rfl (lv_at hl 1 rfl) ?_
    refine lv_iload_n X.1 X.2.1 dJ0_indexOf_7cf53_12 rfl (lv_at hl 2 rfl) ?_
    refine lv_aload_n X.1 X.2.1 dJ0_indexOf_7cf53_13 rfl (lv_at hl 0 rfl) ?_
    obtain ⟨g_10, hw⟩ := hw
    refine k_i h (r_VS (i := j0) (As := []) (rest := [.int (iv x2), .int (iv x1), .ref (ct (3000 + j0))]) X h (c_J0_length_8abf5 l D ct ad L φ N0 σ_2 j0 _ hw) rfl rfl ⟨Nat.le_of_ble_eq_true rfl, Nat.le_of_ble_eq_true rfl⟩ kw_998 kw_999 kw_1000 kw_133 kw_1001 ⟨rfl, pd_J0_length_8abf5⟩ g_10 rfl hl.1 rfl (Nat.le_of_ble_eq_true rfl) ⟨Nat.le_of_ble_eq_true rfl, Nat.le_of_ble_eq_true rfl⟩ dJ0_indexOf_7cf53_14) (fun r_12 σ_11 H locs hw h => ?_)
    refine k_i h (r_S (As := [.ref (ct (3000 + j0)), .int (iv x1), .int (iv x2), .int (iv r_12)]) (rest := []) X h (c_J1_indexOf_4cfef l D ct ad L φ N0 σ_11 j0 x1 x2 r_12 _ hw) rfl rfl ⟨Nat.le_of_ble_eq_true rfl, Nat.le_of_ble_eq_true rfl⟩ kw_1006 kw_1007 kw_134 kw_1008 pd_J1_indexOf_4cfef rfl hl.1 rfl (Nat.le_of_ble_eq_true rfl) ⟨Nat.le_of_ble_eq_true rfl, Nat.le_of_ble_eq_true rfl⟩ dJ0_indexOf_7cf53_17) (fun r_14 σ_13 H locs hw h => ?_)
    refine lv_goto (tgt := 36) X.1 X.2.1 dJ0_indexOf_7cf53_20 (by decide) ?_
    exact k_ir X rfl h hw dJ0_indexOf_7cf53_36
end
section
variable {p : Program} {l : Launch} {e : Env} {s : State} {m : MethodId} {args : Array Value} {below : List Frame} {meth : Method} {c : Code} {D : va_G} {ct : Nat → ClassId} {ad : Nat → Nat → Nat} {L : List (Nat × Nat)} {φ : Nat → Nat → Nat → Bool} {N0 : Nat}
variable {Q : Int → St → Prop}
theorem pd_J0_indexOf_0f7a4 : yJ0_indexOf_0f7a4.cls ≠ "java/lang/invoke/MethodHandle" ∧ yJ0_indexOf_0f7a4.cls ≠ "java/lang/invoke/VarHandle" ∧ (parseMethodDescriptor yJ0_indexOf_0f7a4.desc).map (fun d => d.parameters.length) = some 1 := by decide +kernel
set_option maxRecDepth 100000 in
set_option maxHeartbeats 4000000 in
theorem c_J0_indexOf_0f7a4 (l : Launch) (D : va_G) (ct : Nat → ClassId) (ad : Nat → Nat → Nat) (L : List (Nat × Nat)) (φ : Nat → Nat → Nat → Bool) (N0 : Nat) (σ : St) (j0 : Nat) (x1 : Int) (Q : Int → St → Prop) (hw : wp_J0_indexOf_0f7a4 σ j0 x1 Q) : Met l yJ0_indexOf_0f7a4 (.code yJ0_indexOf_0f7a4 cJ0_indexOf_0f7a4 2 (some .int) :: gw) ({ frames := 3, cells := 0, slots := 0, locals := 70 } : Room) (Pm D ct ad L φ N0 σ [.ref (ct (2000 + j0)), .int (iv x1)]) (Qi D ct ad L φ N0 Q) 0 0 (AA N0) := by
  refine m_ofF (by decide +kernel) (fun p e s m below meth c X hnm h => ?_)
  have hF := X.2.2.2.2.2.2.2.2.1
  have hl := lv_entry ([.ref (ct (2000 + j0)), .int (iv x1)]) (n := 2) (Nat.le_of_ble_eq_true rfl)
  rw [lg_entry_eq]
  generalize (lg_sl ([.ref (ct (2000 + j0)), .int (iv x1)]) ++ List.replicate (2 - (lg_sl ([.ref (ct (2000 + j0)), .int (iv x1)])).length) Slot.unset).toArray = ls at hl ⊢
  have hl : lv_has ls 2 [(0, .ref (ct (2000 + j0))), (1, .int (iv x1))] := hl
  have h : Hs D ct ad L φ N0 s.heap σ s.heap [] := h
  unfold wp_J0_indexOf_0f7a4 at hw
  refine lv_aload_n X.1 X.2.1 dJ0_indexOf_0f7a4_0 rfl (lv_at hl 0 rfl) ?_
  refine lv_iload_n X.1 X.2.1 dJ0_indexOf_0f7a4_1 rfl (lv_at hl 1 rfl) ?_
  refine j_iconst X dJ0_indexOf_0f7a4_2 ?_
  obtain ⟨g_1, hw⟩ := hw
  refine k_i h (r_VS (i := j0) (As := [.int (iv x1), .int (iv 0)]) (rest := []) X h (c_J0_indexOf_7cf53 l D ct ad L φ N0 σ j0 x1 0 _ hw) rfl rfl ⟨Nat.le_of_ble_eq_true rfl, Nat.le_of_ble_eq_true rfl⟩ kw_988 kw_989 kw_990 kw_133 kw_991 ⟨rfl, pd_J0_indexOf_7cf53⟩ g_1 rfl hl.1 rfl (Nat.le_of_ble_eq_true rfl) ⟨Nat.le_of_ble_eq_true rfl, Nat.le_of_ble_eq_true rfl⟩ dJ0_indexOf_0f7a4_3) (fun r_3 σ_2 H locs hw h => ?_)
  exact k_ir X rfl h hw dJ0_indexOf_0f7a4_6
end
section
variable {p : Program} {l : Launch} {e : Env} {s : State} {m : MethodId} {args : Array Value} {below : List Frame} {meth : Method} {c : Code} {D : va_G} {ct : Nat → ClassId} {ad : Nat → Nat → Nat} {L : List (Nat × Nat)} {φ : Nat → Nat → Nat → Bool} {N0 : Nat}
variable {Q : St → Prop}
set_option maxRecDepth 100000 in
set_option maxHeartbeats 4000000 in
theorem lb_X9_next_145 (X : Cx p s m meth c args cX9_next 2 none RX9 D ct L φ N0) (σ : St) (x1 : Int) (H : Heap) (locs : List Loc) (ls : Array Slot) (hw : wp_X9_next_145 Q σ x1) (h : Hs D ct ad L φ N0 s.heap σ H locs) (hl : lv_has ls 2 [(0, .ref (ad 9 0)), (1, .int (iv x1))]) : W p l e ({ frames := 4, cells := 0, slots := 0, locals := 91 } : Room) s m args below meth c H locs 0 0 (MQ below (Qv D ct ad L φ N0 Q) args s 0 0 (AA N0)) (F0 m 145 ls []) := by
  have hF := X.2.2.2.2.2.2.2.2.1
  unfold wp_X9_next_145 at hw
  refine lv_aload_n X.1 X.2.1 dX9_next_145 rfl (lv_at hl 0 rfl) ?_
  refine lv_iload_n X.1 X.2.1 dX9_next_146 rfl (lv_at hl 1 rfl) ?_
  refine r_put (ci := 9) X inw_9 tyX9 tyX9_ok nmX9 h (hF.1 9 rfl).1 rfl rfl 4 (by decide) kw_263 rfl rfl rfl (Nat.le_of_ble_eq_true rfl) rfl rfl dX9_next_147 (fun H locs h => ?_)
  obtain ⟨σ_1, eσ_1⟩ : ∃ z : St, z = st σ 9 0 4 x1 := ⟨_, rfl⟩
  rw [← eσ_1] at h
  have hw := hw σ_1 eσ_1
  exact k_vr X h hw dX9_next_150
set_option maxRecDepth 100000 in
set_option maxHeartbeats 4000000 in
theorem lb_X9_next_139 (X : Cx p s m meth c args cX9_next 2 none RX9 D ct L φ N0) (σ : St) (x1 : Int) (y0 : Int) (H : Heap) (locs : List Loc) (ls : Array Slot) (hw : wp_X9_next_139 Q σ x1 y0) (h : Hs D ct ad L φ N0 s.heap σ H locs) (hl : lv_has ls 2 [(0, .ref (ad 9 0)), (1, .int (iv x1))]) : W p l e ({ frames := 4, cells := 0, slots := 0, locals := 91 } : Room) s m args below meth c H locs 0 0 (MQ below (Qv D ct ad L φ N0 Q) args s 0 0 (AA N0)) (F0 m 139 ls [.int (iv y0), .ref (ad 9 0)]) := by
  have hF := X.2.2.2.2.2.2.2.2.1
  unfold wp_X9_next_139 at hw
  refine r_put (ci := 9) X inw_9 tyX9 tyX9_ok nmX9 h (hF.1 9 rfl).1 rfl rfl 2 (by decide) kw_260 rfl rfl rfl (Nat.le_of_ble_eq_true rfl) rfl rfl dX9_next_139 (fun H locs h => ?_)
  obtain ⟨σ_2, eσ_2⟩ : ∃ z : St, z = st σ 9 0 2 y0 := ⟨_, rfl⟩
  rw [← eσ_2] at h
  have hw := hw σ_2 eσ_2
  refine j_iinc (kk9 := 1) (lv' := [(1, .int (iv (x1 + 1))), (0, .ref (ad 9 0))]) X dX9_next_142 hl rfl (by decide) rfl (fun ls hl => ?_)
  exact lb_X9_next_145 X σ_2 (x1 + 1) _ _ _ hw h (lv_sub hl [1, 0] rfl)
set_option maxRecDepth 100000 in
set_option maxHeartbeats 4000000 in
theorem lb_X9_next_112 (X : Cx p s m meth c args cX9_next 2 none RX9 D ct L φ N0) (σ : St) (x1 : Int) (y0 : Int) (H : Heap) (locs : List Loc) (ls : Array Slot) (hw : wp_X9_next_112 Q σ x1 y0) (h : Hs D ct ad L φ N0 s.heap σ H locs) (hl : lv_has ls 2 [(0, .ref (ad 9 0)), (1, .int (iv x1))]) : W p l e ({ frames := 4, cells := 0, slots := 0, locals := 91 } : Room) s m args below meth c H locs 0 0 (MQ below (Qv D ct ad L φ N0 Q) args s 0 0 (AA N0)) (F0 m 112 ls [.int (iv y0), .ref (ad 9 0)]) := by
  have hF := X.2.2.2.2.2.2.2.2.1
  unfold wp_X9_next_112 at hw
  refine r_put (ci := 9) X inw_9 tyX9 tyX9_ok nmX9 h (hF.1 9 rfl).1 rfl rfl 2 (by decide) kw_260 rfl rfl rfl (Nat.le_of_ble_eq_true rfl) rfl rfl dX9_next_112 (fun H locs h => ?_)
  obtain ⟨σ_3, eσ_3⟩ : ∃ z : St, z = st σ 9 0 2 y0 := ⟨_, rfl⟩
  rw [← eσ_3] at h
  have hw := hw σ_3 eσ_3
  refine lv_goto (tgt := 145) X.1 X.2.1 dX9_next_115 (by decide) ?_
  exact lb_X9_next_145 X σ_3 x1 _ _ _ hw h (lv_sub hl [0, 1] rfl)
set_option maxRecDepth 100000 in
set_option maxHeartbeats 4000000 in
theorem lb_X9_next_31 (X : Cx p s m meth c args cX9_next 2 none RX9 D ct L φ N0) (σ : St) (x1 : Int) (H : Heap) (locs : List Loc) (ls : Array Slot) (hw : wp_X9_next_31 Q σ x1) (h : Hs D ct ad L φ N0 s.heap σ H locs) (hl : lv_has ls 2 [(0, .ref (ad 9 0)), (1, .int (iv x1))]) : W p l e ({ frames := 4, cells := 0, slots := 0, locals := 91 } : Room) s m args below meth c H locs 0 0 (MQ below (Qv D ct ad L φ N0 Q) args s 0 0 (AA N0)) (F0 m 31 ls []) := by
  have hF := X.2.2.2.2.2.2.2.2.1
  unfold wp_X9_next_31 at hw
  refine lv_aload_n X.1 X.2.1 dX9_next_31 rfl (lv_at hl 0 rfl) ?_
  refine lv_iload_n X.1 X.2.1 dX9_next_32 rfl (lv_at hl 1 rfl) ?_
  refine r_put (ci := 9) X inw_9 tyX9 tyX9_ok nmX9 h (hF.1 9 rfl).1 rfl rfl 3 (by decide) kw_261 rfl rfl rfl (Nat.le_of_ble_eq_true rfl) rfl rfl dX9_next_33 (fun H locs h => ?_)
  obtain ⟨σ_4, eσ_4⟩ : ∃ z : St, z = st σ 9 0 3 x1 := ⟨_, rfl⟩
  rw [← eσ_4] at h
  have hw := hw σ_4 eσ_4
  refine lv_iload_n X.1 X.2.1 dX9_next_36 rfl (lv_at hl 1 rfl) ?_
  refine lv_aload_n X.1 X.2.1 dX9_next_37 rfl (lv_at hl 0 rfl) ?_
  refine r_get (ci := 9) X inw_9 h (hF.1 9 rfl).1 rfl rfl 1 (by decide) kw_257 rfl dX9_next_38 ?_
  obtain ⟨g_5, g_6, hwt, hwf⟩ := hw
  refine j_cmp_lt (tgt := 52) X g_5 g_6 dX9_next_41 (by decide) (fun c_33 => ?_) (fun c_33 => ?_)
  · have hw := hwt c_33
    refine lv_aload_n X.1 X.2.1 dX9_next_52 rfl (lv_at hl 0 rfl) ?_
    refine r_getR (ci := 9) X inw_9 h (hF.1 9 rfl).1 rfl rfl 0 (by decide) kw_256 rfl ((hF.1 9 rfl).2 0) dX9_next_53 ?_
    refine lv_iload_n X.1 X.2.1 dX9_next_56 rfl (lv_at hl 1 rfl) ?_
    obtain ⟨g_7, g_8, hw⟩ := hw
    refine r_iald (n := 300) X h (hF.1 76 rfl).1 rfl (by decide) g_7 g_8 dX9_next_57 ?_
    refine k_i h (r_S (As := [.int (iv (σ_4 76 0 (Int.toNat x1)))]) (rest := []) X h (c_X9_isLetter l D ct ad L φ N0 σ_4 (σ_4 76 0 (Int.toNat x1)) _ hw) rfl rfl ⟨Nat.le_of_ble_eq_true rfl, Nat.le_of_ble_eq_true rfl⟩ kw_968 kw_969 kw_124 kw_970 pd_X9_isLetter rfl hl.1 rfl (Nat.le_of_ble_eq_true rfl) ⟨Nat.le_of_ble_eq_true rfl, Nat.le_of_ble_eq_true rfl⟩ dX9_next_58) (fun r_10 σ_9 H locs hw h => ?_)
    obtain ⟨g_11, hwt, hwf⟩ := hw
    refine j_if_eq (tgt := 78) X g_11 dX9_next_61 (by decide) (fun c_31 => ?_) (fun c_31 => ?_)
    · have hw := hwt c_31
      refine lv_aload_n X.1 X.2.1 dX9_next_78 rfl (lv_at hl 0 rfl) ?_
      refine r_getR (ci := 9) X inw_9 h (hF.1 9 rfl).1 rfl rfl 0 (by decide) kw_256 rfl ((hF.1 9 rfl).2 0) dX9_next_79 ?_
      refine lv_iload_n X.1 X.2.1 dX9_next_82 rfl (lv_at hl 1 rfl) ?_
      obtain ⟨g_12, g_13, hw⟩ := hw
      refine r_iald (n := 300) X h (hF.1 76 rfl).1 rfl (by decide) g_12 g_13 dX9_next_83 ?_
      refine k_i h (r_S (As := [.int (iv (σ_9 76 0 (Int.toNat x1)))]) (rest := []) X h (c_X9_isDigit l D ct ad L φ N0 σ_9 (σ_9 76 0 (Int.toNat x1)) _ hw) rfl rfl ⟨Nat.le_of_ble_eq_true rfl, Nat.le_of_ble_eq_true rfl⟩ kw_976 kw_977 kw_124 kw_978 pd_X9_isDigit rfl hl.1 rfl (Nat.le_of_ble_eq_true rfl) ⟨Nat.le_of_ble_eq_true rfl, Nat.le_of_ble_eq_true rfl⟩ dX9_next_84) (fun r_15 σ_14 H locs hw h => ?_)
      obtain ⟨g_16, hwt, hwf⟩ := hw
      refine j_if_eq (tgt := 118) X g_16 dX9_next_87 (by decide) (fun c_27 => ?_) (fun c_27 => ?_)
      · have hw := hwt c_27
        refine lv_aload_n X.1 X.2.1 dX9_next_118 rfl (lv_at hl 0 rfl) ?_
        refine r_ldcS X X.2.2.2.2.2.2.2.1.2.2.2.2.2.2.2.2.2.2.2.2.2.1 dX9_next_119 ?_
        refine lv_aload_n X.1 X.2.1 dX9_next_121 rfl (lv_at hl 0 rfl) ?_
        refine r_getR (ci := 9) X inw_9 h (hF.1 9 rfl).1 rfl rfl 0 (by decide) kw_256 rfl ((hF.1 9 rfl).2 0) dX9_next_122 ?_
        refine lv_iload_n X.1 X.2.1 dX9_next_125 rfl (lv_at hl 1 rfl) ?_
        obtain ⟨g_17, g_18, hw⟩ := hw
        refine r_iald (n := 300) X h (hF.1 76 rfl).1 rfl (by decide) g_17 g_18 dX9_next_126 ?_
        refine j_i2c X dX9_next_127 ?_
        refine k_i h (r_VS (i := 0) (As := [.int (iv (i_i2c (σ_14 76 0 (Int.toNat x1))))]) (rest := [.ref (ad 9 0)]) X h (c_J0_indexOf_0f7a4 l D ct ad L φ N0 σ_14 0 (i_i2c (σ_14 76 0 (Int.toNat x1))) _ hw) rfl rfl ⟨Nat.le_of_ble_eq_true rfl, Nat.le_of_ble_eq_true rfl⟩ kw_984 kw_985 kw_986 kw_133 kw_987 ⟨rfl, pd_J0_indexOf_0f7a4⟩ (by decide) rfl hl.1 rfl (Nat.le_of_ble_eq_true rfl) ⟨Nat.le_of_ble_eq_true rfl, Nat.le_of_ble_eq_true rfl⟩ dX9_next_128) (fun r_20 σ_19 H locs hw h => ?_)
        obtain ⟨g_21, hwt, hwf⟩ := hw
        refine j_if_lt (tgt := 138) X g_21 dX9_next_131 (by decide) (fun c_22 => ?_) (fun c_22 => ?_)
        · have hw := hwt c_22
          refine j_iconst X dX9_next_138 ?_
          exact lb_X9_next_139 X σ_19 x1 4 _ _ _ hw h (lv_sub hl [0, 1] rfl)
        · have hw := hwf c_22
          refine j_iconst X dX9_next_134 ?_
          refine lv_goto (tgt := 139) X.1 X.2.1 dX9_next_135 (by decide) ?_
          exact lb_X9_next_139 X σ_19 x1 3 _ _ _ hw h (lv_sub hl [0, 1] rfl)
      · have hw := hwf c_27
        refine lv_aload_n X.1 X.2.1 dX9_next_90 rfl (lv_at hl 0 rfl) ?_
        refine lv_iload_n X.1 X.2.1 dX9_next_91 rfl (lv_at hl 1 rfl) ?_
        refine k_i h (r_V (C := RX9) (ci := 9) (As := [.int (iv x1)]) (rest := []) X h (c_X9_behindDigits l D ct ad L φ N0 σ_14 x1 _ hw) rfl rfl ⟨Nat.le_of_ble_eq_true rfl, Nat.le_of_ble_eq_true rfl⟩ kw_979 kw_981 kw_25 kw_124 kw_982 ⟨rfl, pd_X9_behindDigits⟩ (hF.1 9 rfl).1 rfl rfl rfl hl.1 rfl (Nat.le_of_ble_eq_true rfl) ⟨Nat.le_of_ble_eq_true rfl, Nat.le_of_ble_eq_true rfl⟩ dX9_next_92) (fun r_24 σ_23 H locs hw h => ?_)
        refine lv_istore_n (lv' := [(1, .int (iv r_24)), (0, .ref (ad 9 0))]) X.1 X.2.1 dX9_next_95 rfl hl (by decide) rfl (fun ls hl => ?_)
        refine lv_aload_n X.1 X.2.1 dX9_next_96 rfl (lv_at hl 1 rfl) ?_
        refine lv_iload_n X.1 X.2.1 dX9_next_97 rfl (lv_at hl 0 rfl) ?_
        refine lv_aload_n X.1 X.2.1 dX9_next_98 rfl (lv_at hl 1 rfl) ?_
        refine r_get (ci := 9) X inw_9 h (hF.1 9 rfl).1 rfl rfl 3 (by decide) kw_261 rfl dX9_next_99 ?_
        refine j_isub X dX9_next_102 ?_
        refine j_iconst X dX9_next_103 ?_
        obtain ⟨g_25, hwt, hwf⟩ := hw
        refine j_cmp_le (tgt := 111) X g_25 ⟨by decide, by decide⟩ dX9_next_104 (by decide) (fun c_26 => ?_) (fun c_26 => ?_)
        · have hw := hwt c_26
          refine j_iconst X dX9_next_111 ?_
          exact lb_X9_next_112 X σ_23 r_24 2 _ _ _ hw h (lv_sub hl [1, 0] rfl)
        · have hw := hwf c_26
          refine j_iconst X dX9_next_107 ?_
          refine lv_goto (tgt := 112) X.1 X.2.1 dX9_next_108 (by decide) ?_
          exact lb_X9_next_112 X σ_23 r_24 4 _ _ _ hw h (lv_sub hl [1, 0] rfl)
    · have hw := hwf c_31
      refine lv_aload_n X.1 X.2.1 dX9_next_64 rfl (lv_at hl 0 rfl) ?_
      refine j_iconst X dX9_next_65 ?_
      refine r_put (ci := 9) X inw_9 tyX9 tyX9_ok nmX9 h (hF.1 9 rfl).1 rfl rfl 2 (by decide) kw_260 rfl rfl rfl (Nat.le_of_ble_eq_true rfl) rfl rfl dX9_next_66 (fun H locs h => ?_)
      obtain ⟨σ_28, eσ_28⟩ : ∃ z : St, z = st σ_9 9 0 2 1 := ⟨_, rfl⟩
      rw [← eσ_28] at h
      have hw := hw σ_28 eσ_28
      refine lv_aload_n X.1 X.2.1 dX9_next_69 rfl (lv_at hl 0 rfl) ?_
      refine lv_iload_n X.1 X.2.1 dX9_next_70 rfl (lv_at hl 1 rfl) ?_
      refine k_i h (r_V (C := RX9) (ci := 9) (As := [.int (iv x1)]) (rest := []) X h (c_X9_behindLetters l D ct ad L φ N0 σ_28 x1 _ hw) rfl rfl ⟨Nat.le_of_ble_eq_true rfl, Nat.le_of_ble_eq_true rfl⟩ kw_972 kw_974 kw_24 kw_124 kw_975 ⟨rfl, pd_X9_behindLetters⟩ (hF.1 9 rfl).1 rfl rfl rfl hl.1 rfl (Nat.le_of_ble_eq_true rfl) ⟨Nat.le_of_ble_eq_true rfl, Nat.le_of_ble_eq_true rfl⟩ dX9_next_71) (fun r_30 σ_29 H locs hw h => ?_)
      refine lv_istore_n (lv' := [(1, .int (iv r_30)), (0, .ref (ad 9 0))]) X.1 X.2.1 dX9_next_74 rfl hl (by decide) rfl (fun ls hl => ?_)
      refine lv_goto (tgt := 145) X.1 X.2.1 dX9_next_75 (by decide) ?_
      exact lb_X9_next_145 X σ_29 r_30 _ _ _ hw h (lv_sub hl [1, 0] rfl)
  · have hw := hwf c_33
    refine lv_aload_n X.1 X.2.1 dX9_next_44 rfl (lv_at hl 0 rfl) ?_
    refine j_iconst X dX9_next_45 ?_
    refine r_put (ci := 9) X inw_9 tyX9 tyX9_ok nmX9 h (hF.1 9 rfl).1 rfl rfl 2 (by decide) kw_260 rfl rfl rfl (Nat.le_of_ble_eq_true rfl) rfl rfl dX9_next_46 (fun H locs h => ?_)
    obtain ⟨σ_32, eσ_32⟩ : ∃ z : St, z = st σ_4 9 0 2 0 := ⟨_, rfl⟩
    rw [← eσ_32] at h
    have hw := hw σ_32 eσ_32
    refine lv_goto (tgt := 145) X.1 X.2.1 dX9_next_49 (by decide) ?_
    exact lb_X9_next_145 X σ_32 x1 _ _ _ hw h (lv_sub hl [0, 1] rfl)
set_option maxRecDepth 100000 in
set_option maxHeartbeats 4000000 in
theorem lb_X9_next_5 (X : Cx p s m meth c args cX9_next 2 none RX9 D ct L φ N0) {K31 : St → Int → Prop} (hK31 : ∀ (σ : St) (x1 : Int) (H : Heap) (locs : List Loc) (ls : Array Slot), K31 σ x1 → Hs D ct ad L φ N0 s.heap σ H locs → lv_has ls 2 [(0, .ref (ad 9 0)), (1, .int (iv x1))] → W p l e ({ frames := 4, cells := 0, slots := 0, locals := 91 } : Room) s m args below meth c H locs 0 0 (MQ below (Qv D ct ad L φ N0 Q) args s 0 0 (AA N0)) (F0 m 31 ls [])) : ∀ (n : Nat) (σ : St) (x1 : Int) (H : Heap) (locs : List Loc) (ls : Array Slot), wp_X9_next_5 K31 Q n σ x1 → Hs D ct ad L φ N0 s.heap σ H locs → lv_has ls 2 [(0, .ref (ad 9 0)), (1, .int (iv x1))] → W p l e ({ frames := 4, cells := 0, slots := 0, locals := 91 } : Room) s m args below meth c H locs 0 0 (MQ below (Qv D ct ad L φ N0 Q) args s 0 0 (AA N0)) (F0 m 5 ls []) := by
  have hF := X.2.2.2.2.2.2.2.2.1
  intro n
  induction n with
  | zero => intro σ x1 H locs ls hw; exact hw.elim
  | succ n ih =>
    intro σ x1 H locs ls hw h hl
    unfold wp_X9_next_5 at hw
    refine lv_iload_n X.1 X.2.1 dX9_next_5 rfl (lv_at hl 1 rfl) ?_
    refine lv_aload_n X.1 X.2.1 dX9_next_6 rfl (lv_at hl 0 rfl) ?_
    refine r_get (ci := 9) X inw_9 h (hF.1 9 rfl).1 rfl rfl 1 (by decide) kw_257 rfl dX9_next_7 ?_
    obtain ⟨g_34, g_35, hwt, hwf⟩ := hw
    refine j_cmp_ge (tgt := 31) X g_34 g_35 dX9_next_10 (by decide) (fun c_42 => ?_) (fun c_42 => ?_)
    · have hw := hwt c_42
      exact hK31 σ x1 _ _ _ hw h (lv_sub hl [0, 1] rfl)
    · have hw := hwf c_42
      refine lv_aload_n X.1 X.2.1 dX9_next_13 rfl (lv_at hl 0 rfl) ?_
      refine r_getR (ci := 9) X inw_9 h (hF.1 9 rfl).1 rfl rfl 0 (by decide) kw_256 rfl ((hF.1 9 rfl).2 0) dX9_next_14 ?_
      refine lv_iload_n X.1 X.2.1 dX9_next_17 rfl (lv_at hl 1 rfl) ?_
      obtain ⟨g_36, g_37, hw⟩ := hw
      refine r_iald (n := 300) X h (hF.1 76 rfl).1 rfl (by decide) g_36 g_37 dX9_next_18 ?_
      refine k_i h (r_S (As := [.int (iv (σ 76 0 (Int.toNat x1)))]) (rest := []) X h (c_X9_isBlank l D ct ad L φ N0 σ (σ 76 0 (Int.toNat x1)) _ hw) rfl rfl ⟨Nat.le_of_ble_eq_true rfl, Nat.le_of_ble_eq_true rfl⟩ kw_965 kw_966 kw_124 kw_967 pd_X9_isBlank rfl hl.1 rfl (Nat.le_of_ble_eq_true rfl) ⟨Nat.le_of_ble_eq_true rfl, Nat.le_of_ble_eq_true rfl⟩ dX9_next_19) (fun r_39 σ_38 H locs hw h => ?_)
      obtain ⟨g_40, hwt, hwf⟩ := hw
      refine j_if_eq (tgt := 31) X g_40 dX9_next_22 (by decide) (fun c_41 => ?_) (fun c_41 => ?_)
      · have hw := hwt c_41
        exact hK31 σ_38 x1 _ _ _ hw h (lv_sub hl [0, 1] rfl)
      · have hw := hwf c_41
        refine j_iinc (kk9 := 1) (lv' := [(1, .int (iv (x1 + 1))), (0, .ref (ad 9 0))]) X dX9_next_25 hl rfl (by decide) rfl (fun ls hl => ?_)
        refine lv_goto (tgt := 5) X.1 X.2.1 dX9_next_28 (by decide) ?_
        exact ih σ_38 (x1 + 1) _ _ _ hw h (lv_sub hl [1, 0] rfl)
theorem pd_X9_next : yX9_next.cls ≠ "java/lang/invoke/MethodHandle" ∧ yX9_next.cls ≠ "java/lang/invoke/VarHandle" ∧ (parseMethodDescriptor yX9_next.desc).map (fun d => d.parameters.length) = some 0 := by decide +kernel
set_option maxRecDepth 100000 in
set_option maxHeartbeats 4000000 in
theorem c_X9_next (l : Launch) (D : va_G) (ct : Nat → ClassId) (ad : Nat → Nat → Nat) (L : List (Nat × Nat)) (φ : Nat → Nat → Nat → Bool) (N0 : Nat) (σ : St) (Q : St → Prop) (hw : wp_X9_next σ Q) : Met l yX9_next (.code yX9_next cX9_next 2 none :: gw) ({ frames := 4, cells := 0, slots := 0, locals := 91 } : Room) (Pm D ct ad L φ N0 σ [.ref (ad 9 0)]) (Qv D ct ad L φ N0 Q) 0 0 (AA N0) := by
  refine m_of (by decide) (fun p e s m below meth c X hnm h => ?_)
  have hF := X.2.2.2.2.2.2.2.2.1
  have hl := lv_entry ([.ref (ad 9 0)]) (n := 2) (Nat.le_of_ble_eq_true rfl)
  rw [lg_entry_eq]
  generalize (lg_sl ([.ref (ad 9 0)]) ++ List.replicate (2 - (lg_sl ([.ref (ad 9 0)])).length) Slot.unset).toArray = ls at hl ⊢
  have hl : lv_has ls 2 [(0, .ref (ad 9 0))] := hl
  have h : Hs D ct ad L φ N0 s.heap σ s.heap [] := h
  unfold wp_X9_next at hw
  refine lv_aload_n X.1 X.2.1 dX9_next_0 rfl (lv_at hl 0 rfl) ?_
  refine r_get (ci := 9) X inw_9 h (hF.1 9 rfl).1 rfl rfl 4 (by decide) kw_263 rfl dX9_next_1 ?_
  refine j_bind (fun v_43 ev_43 => ?_)
  have hw := hw v_43 ev_43
  refine lv_istore_n (lv' := [(1, .int (iv v_43)), (0, .ref (ad 9 0))]) X.1 X.2.1 dX9_next_4 rfl hl (by decide) rfl (fun ls hl => ?_)
  exact hw.elim (fun n5 hw => lb_X9_next_5 X (lb_X9_next_31 X) n5 σ v_43 _ _ _ hw h (lv_sub hl [1, 0] rfl))
end
section
variable {p : Program} {l : Launch} {e : Env} {s : State} {m : MethodId} {args : Array Value} {below : List Frame} {meth : Method} {c : Code} {D : va_G} {ct : Nat → ClassId} {ad : Nat → Nat → Nat} {L : List (Nat × Nat)} {φ : Nat → Nat → Nat → Bool} {N0 : Nat}
variable {Q : St → Prop}
theorem pd_X9_rewind : yX9_rewind.cls ≠ "java/lang/invoke/MethodHandle" ∧ yX9_rewind.cls ≠ "java/lang/invoke/VarHandle" ∧ (parseMethodDescriptor yX9_rewind.desc).map (fun d => d.parameters.length) = some 0 := by decide +kernel
set_option maxRecDepth 100000 in
set_option maxHeartbeats 4000000 in
theorem c_X9_rewind (l : Launch) (D : va_G) (ct : Nat → ClassId) (ad : Nat → Nat → Nat) (L : List (Nat × Nat)) (φ : Nat → Nat → Nat → Bool) (N0 : Nat) (σ : St) (Q : St → Prop) (hw : wp_X9_rewind σ Q) : Met l yX9_rewind (.code yX9_rewind cX9_rewind 1 none :: gw) ({ frames := 5, cells := 0, slots := 0, locals := 112 } : Room) (Pm D ct ad L φ N0 σ [.ref (ad 9 0)]) (Qv D ct ad L φ N0 Q) 0 0 (AA N0) := by
  refine m_of (by decide) (fun p e s m below meth c X hnm h => ?_)
  have hF := X.2.2.2.2.2.2.2.2.1
  have hl := lv_entry ([.ref (ad 9 0)]) (n := 1) (Nat.le_of_ble_eq_true rfl)
  rw [lg_entry_eq]
  generalize (lg_sl ([.ref (ad 9 0)]) ++ List.replicate (1 - (lg_sl ([.ref (ad 9 0)])).length) Slot.unset).toArray = ls at hl ⊢
  have hl : lv_has ls 1 [(0, .ref (ad 9 0))] := hl
  have h : Hs D ct ad L φ N0 s.heap σ s.heap [] := h
  unfold wp_X9_rewind at hw
  refine lv_aload_n X.1 X.2.1 dX9_rewind_0 rfl (lv_at hl 0 rfl) ?_
  refine j_iconst X dX9_rewind_1 ?_
  refine r_put (ci := 9) X inw_9 tyX9 tyX9_ok nmX9 h (hF.1 9 rfl).1 rfl rfl 4 (by decide) kw_263 rfl rfl rfl (Nat.le_of_ble_eq_true rfl) rfl rfl dX9_rewind_2 (fun H locs h => ?_)
  obtain ⟨σ_1, eσ_1⟩ : ∃ z : St, z = st σ 9 0 4 0 := ⟨_, rfl⟩
  rw [← eσ_1] at h
  have hw := hw σ_1 eσ_1
  refine lv_aload_n X.1 X.2.1 dX9_rewind_5 rfl (lv_at hl 0 rfl) ?_
  refine k_v h (r_V (C := RX9) (ci := 9) (As := []) (rest := []) X h (c_X9_next l D ct ad L φ N0 σ_1 _ hw) rfl rfl ⟨Nat.le_of_ble_eq_true rfl, Nat.le_of_ble_eq_true rfl⟩ kw_961 kw_962 kw_963 kw_124 kw_964 ⟨rfl, pd_X9_next⟩ (hF.1 9 rfl).1 rfl rfl rfl hl.1 rfl (Nat.le_of_ble_eq_true rfl) ⟨Nat.le_of_ble_eq_true rfl, Nat.le_of_ble_eq_true rfl⟩ dX9_rewind_6) (fun σ_2 H locs hw h => ?_)
  exact k_vr X h hw dX9_rewind_9
end
section
variable {p : Program} {l : Launch} {e : Env} {s : State} {m : MethodId} {args : Array Value} {below : List Frame} {meth : Method} {c : Code} {D : va_G} {ct : Nat → ClassId} {ad : Nat → Nat → Nat} {L : List (Nat × Nat)} {φ : Nat → Nat → Nat → Bool} {N0 : Nat}
variable {Q : Int → St → Prop}
theorem pd_X9_isEnd : yX9_isEnd.cls ≠ "java/lang/invoke/MethodHandle" ∧ yX9_isEnd.cls ≠ "java/lang/invoke/VarHandle" ∧ (parseMethodDescriptor yX9_isEnd.desc).map (fun d => d.parameters.length) = some 0 := by decide +kernel
set_option maxRecDepth 100000 in
set_option maxHeartbeats 4000000 in
theorem c_X9_isEnd (l : Launch) (D : va_G) (ct : Nat → ClassId) (ad : Nat → Nat → Nat) (L : List (Nat × Nat)) (φ : Nat → Nat → Nat → Bool) (N0 : Nat) (σ : St) (Q : Int → St → Prop) (hw : wp_X9_isEnd σ Q) : Met l yX9_isEnd (.code yX9_isEnd cX9_isEnd 1 (some .boolean) :: gw) ({ frames := 0, cells := 0, slots := 0, locals := 0 } : Room) (Pm D ct ad L φ N0 σ [.ref (ad 9 0)]) (Qi D ct ad L φ N0 Q) 0 0 (AA N0) := by
  refine m_of (by decide) (fun p e s m below meth c X hnm h => ?_)
  have hF := X.2.2.2.2.2.2.2.2.1
  have hl := lv_entry ([.ref (ad 9 0)]) (n := 1) (Nat.le_of_ble_eq_true rfl)
  rw [lg_entry_eq]
  generalize (lg_sl ([.ref (ad 9 0)]) ++ List.replicate (1 - (lg_sl ([.ref (ad 9 0)])).length) Slot.unset).toArray = ls at hl ⊢
  have hl : lv_has ls 1 [(0, .ref (ad 9 0))] := hl
  have h : Hs D ct ad L φ N0 s.heap σ s.heap [] := h
  unfold wp_X9_isEnd at hw
  refine lv_aload_n X.1 X.2.1 dX9_isEnd_0 rfl (lv_at hl 0 rfl) ?_
  refine r_get (ci := 9) X inw_9 h (hF.1 9 rfl).1 rfl rfl 2 (by decide) kw_260 rfl dX9_isEnd_1 ?_
  obtain ⟨g_1, hwt, hwf⟩ := hw
  refine j_if_ne (tgt := 11) X g_1 dX9_isEnd_4 (by decide) (fun c_2 => ?_) (fun c_2 => ?_)
  · have hw := hwt c_2
    refine j_iconst X dX9_isEnd_11 ?_
    exact k_ir X rfl h hw dX9_isEnd_12
  · have hw := hwf c_2
    refine j_iconst X dX9_isEnd_7 ?_
    refine lv_goto (tgt := 12) X.1 X.2.1 dX9_isEnd_8 (by decide) ?_
    exact k_ir X rfl h hw dX9_isEnd_12
end
section
variable {p : Program} {l : Launch} {e : Env} {s : State} {m : MethodId} {args : Array Value} {below : List Frame} {meth : Method} {c : Code} {D : va_G} {ct : Nat → ClassId} {ad : Nat → Nat → Nat} {L : List (Nat × Nat)} {φ : Nat → Nat → Nat → Bool} {N0 : Nat}
variable {Q : St → Prop}
theorem pd_J0_checkIndex_df160 : yJ0_checkIndex_df160.cls ≠ "java/lang/invoke/MethodHandle" ∧ yJ0_checkIndex_df160.cls ≠ "java/lang/invoke/VarHandle" ∧ (parseMethodDescriptor yJ0_checkIndex_df160.desc).map (fun d => d.parameters.length) = some 2 := by decide +kernel
set_option maxRecDepth 100000 in
set_option maxHeartbeats 4000000 in
theorem c_J0_checkIndex_df160 (l : Launch) (D : va_G) (ct : Nat → ClassId) (ad : Nat → Nat → Nat) (L : List (Nat × Nat)) (φ : Nat → Nat → Nat → Bool) (N0 : Nat) (σ : St) (x0 : Int) (x1 : Int) (Q : St → Prop) (hw : wp_J0_checkIndex_df160 σ x0 x1 Q) : Met l yJ0_checkIndex_df160 (.code yJ0_checkIndex_df160 cJ0_checkIndex_df160 2 none :: gw) ({ frames := 1, cells := 0, slots := 0, locals := 22 } : Room) (Pm D ct ad L φ N0 σ [.int (iv x0), .int (iv x1)]) (Qv D ct ad L φ N0 Q) 0 0 (AA N0) := by
  refine m_ofF (by decide +kernel) (fun p e s m below meth c X hnm h => ?_)
  have hF := X.2.2.2.2.2.2.2.2.1
  have hl := lv_entry ([.int (iv x0), .int (iv x1)]) (n := 2) (Nat.le_of_ble_eq_true rfl)
  rw [lg_entry_eq]
  generalize (lg_sl ([.int (iv x0), .int (iv x1)]) ++ List.replicate (2 - (lg_sl ([.int (iv x0), .int (iv x1)])).length) Slot.unset).toArray = ls at hl ⊢
  have hl : lv_has ls 2 [(0, .int (iv x0)), (1, .int (iv x1))] := hl
  have h : Hs D ct ad L φ N0 s.heap σ s.heap [] := h
  unfold wp_J0_checkIndex_df160 at hw
  refine lv_iload_n X.1 X.2.1 dJ0_checkIndex_df160_0 rfl (lv_at hl 0 rfl) ?_
  refine lv_iload_n X.1 X.2.1 dJ0_checkIndex_df160_1 rfl (lv_at hl 1 rfl) ?_
  obtain ⟨hwt, hwf⟩ := hw
  refine r_gets (v := fvv ct) X h X.2.2.2.2.2.2.2.1.2.2.2.2.2.2.1 kw_1035 dJ0_checkIndex_df160_2 ?_
  by_cases c_5 : ct 1002 = 0
  · rw [fvv_n c_5]
    have hw := hwt
    refine k_i h (r_S (As := [.int (iv x0), .int (iv x1), .null]) (rest := []) X h (c_J3_checkIndex_8e157n l D ct ad L φ N0 σ x0 x1 _ hw) rfl rfl ⟨Nat.le_of_ble_eq_true rfl, Nat.le_of_ble_eq_true rfl⟩ kw_1094 kw_1095 kw_136 kw_1096 pd_J3_checkIndex_8e157n rfl hl.1 rfl (Nat.le_of_ble_eq_true rfl) ⟨Nat.le_of_ble_eq_true rfl, Nat.le_of_ble_eq_true rfl⟩ dJ0_checkIndex_df160_5) (fun r_2 σ_1 H locs hw h => ?_)
    refine lv_pop X.1 X.2.1 dJ0_checkIndex_df160_8 rfl ?_
    exact k_vr X h hw dJ0_checkIndex_df160_9
  · rw [fvv_r c_5]
    have hw := hwf
    refine k_i h (r_S (As := [.int (iv x0), .int (iv x1), .ref (ct 1003)]) (rest := []) X h (c_J3_checkIndex_8e157 l D ct ad L φ N0 σ x0 x1 _ hw) rfl rfl ⟨Nat.le_of_ble_eq_true rfl, Nat.le_of_ble_eq_true rfl⟩ kw_1094 kw_1095 kw_136 kw_1096 pd_J3_checkIndex_8e157 rfl hl.1 rfl (Nat.le_of_ble_eq_true rfl) ⟨Nat.le_of_ble_eq_true rfl, Nat.le_of_ble_eq_true rfl⟩ dJ0_checkIndex_df160_5) (fun r_4 σ_3 H locs hw h => ?_)
    refine lv_pop X.1 X.2.1 dJ0_checkIndex_df160_8 rfl ?_
    exact k_vr X h hw dJ0_checkIndex_df160_9
end
section
variable {p : Program} {l : Launch} {e : Env} {s : State} {m : MethodId} {args : Array Value} {below : List Frame} {meth : Method} {c : Code} {D : va_G} {ct : Nat → ClassId} {ad : Nat → Nat → Nat} {L : List (Nat × Nat)} {φ : Nat → Nat → Nat → Bool} {N0 : Nat}
variable {Q : Int → St → Prop}
theorem pd_J1_charAt_3b067 : yJ1_charAt_3b067.cls ≠ "java/lang/invoke/MethodHandle" ∧ yJ1_charAt_3b067.cls ≠ "java/lang/invoke/VarHandle" ∧ (parseMethodDescriptor yJ1_charAt_3b067.desc).map (fun d => d.parameters.length) = some 2 := by decide +kernel
set_option maxRecDepth 100000 in
set_option maxHeartbeats 4000000 in
theorem c_J1_charAt_3b067 (l : Launch) (D : va_G) (ct : Nat → ClassId) (ad : Nat → Nat → Nat) (L : List (Nat × Nat)) (φ : Nat → Nat → Nat → Bool) (N0 : Nat) (σ : St) (j0 : Nat) (x1 : Int) (Q : Int → St → Prop) (hw : wp_J1_charAt_3b067 σ j0 x1 Q) : Met l yJ1_charAt_3b067 (.code yJ1_charAt_3b067 cJ1_charAt_3b067 2 (some .char) :: gw) ({ frames := 2, cells := 0, slots := 0, locals := 43 } : Room) (Pm D ct ad L φ N0 σ [.ref (ct (3000 + j0)), .int (iv x1)]) (Qi D ct ad L φ N0 Q) 0 0 (AA N0) := by
  refine m_ofF (by decide +kernel) (fun p e s m below meth c X hnm h => ?_)
  have hF := X.2.2.2.2.2.2.2.2.1
  have hl := lv_entry ([.ref (ct (3000 + j0)), .int (iv x1)]) (n := 2) (Nat.le_of_ble_eq_true rfl)
  rw [lg_entry_eq]
  generalize (lg_sl ([.ref (ct (3000 + j0)), .int (iv x1)]) ++ List.replicate (2 - (lg_sl ([.ref (ct (3000 + j0)), .int (iv x1)])).length) Slot.unset).toArray = ls at hl ⊢
  have hl : lv_has ls 2 [(0, .ref (ct (3000 + j0))), (1, .int (iv x1))] := hl
  have h : Hs D ct ad L φ N0 s.heap σ s.heap [] := h
  unfold wp_J1_charAt_3b067 at hw
  refine lv_iload_n X.1 X.2.1 dJ1_charAt_3b067_0 rfl (lv_at hl 1 rfl) ?_
  refine lv_aload_n X.1 X.2.1 dJ1_charAt_3b067_1 rfl (lv_at hl 0 rfl) ?_
  obtain ⟨g_1, hw⟩ := hw
  refine r_slen X h g_1 dJ1_charAt_3b067_2 ?_
  refine k_v h (r_S (As := [.int (iv x1), .int (iv (slen j0))]) (rest := []) X h (c_J0_checkIndex_df160 l D ct ad L φ N0 σ x1 (slen j0) _ hw) rfl rfl ⟨Nat.le_of_ble_eq_true rfl, Nat.le_of_ble_eq_true rfl⟩ kw_1091 kw_1092 kw_133 kw_1093 pd_J0_checkIndex_df160 rfl hl.1 rfl (Nat.le_of_ble_eq_true rfl) ⟨Nat.le_of_ble_eq_true rfl, Nat.le_of_ble_eq_true rfl⟩ dJ1_charAt_3b067_3) (fun σ_2 H locs hw h => ?_)
  refine lv_aload_n X.1 X.2.1 dJ1_charAt_3b067_6 rfl (lv_at hl 0 rfl) ?_
  refine lv_iload_n X.1 X.2.1 dJ1_charAt_3b067_7 rfl (lv_at hl 1 rfl) ?_
  obtain ⟨g_3, g_4, g_5, hw⟩ := hw
  refine r_sb X h g_3 g_4 g_5 dJ1_charAt_3b067_8 ?_
  refine j_sipush X dJ1_charAt_3b067_9 (by decide) ?_
  refine j_iand X dJ1_charAt_3b067_12 ?_
  refine j_i2c X dJ1_charAt_3b067_13 ?_
  obtain ⟨g_6, g_7, hw⟩ := hw
  exact k_ir X (nc_n g_6 g_7) h hw dJ1_charAt_3b067_14
end
section
variable {p : Program} {l : Launch} {e : Env} {s : State} {m : MethodId} {args : Array Value} {below : List Frame} {meth : Method} {c : Code} {D : va_G} {ct : Nat → ClassId} {ad : Nat → Nat → Nat} {L : List (Nat × Nat)} {φ : Nat → Nat → Nat → Bool} {N0 : Nat}
variable {Q : Int → St → Prop}
theorem pd_J0_charAt_5068e : yJ0_charAt_5068e.cls ≠ "java/lang/invoke/MethodHandle" ∧ yJ0_charAt_5068e.cls ≠ "java/lang/invoke/VarHandle" ∧ (parseMethodDescriptor yJ0_charAt_5068e.desc).map (fun d => d.parameters.length) = some 1 := by decide +kernel
set_option maxRecDepth 100000 in
set_option maxHeartbeats 4000000 in
theorem c_J0_charAt_5068e (l : Launch) (D : va_G) (ct : Nat → ClassId) (ad : Nat → Nat → Nat) (L : List (Nat × Nat)) (φ : Nat → Nat → Nat → Bool) (N0 : Nat) (σ : St) (j0 : Nat) (x1 : Int) (Q : Int → St → Prop) (hw : wp_J0_charAt_5068e σ j0 x1 Q) : Met l yJ0_charAt_5068e (.code yJ0_charAt_5068e cJ0_charAt_5068e 2 (some .char) :: gw) ({ frames := 3, cells := 0, slots := 0, locals := 64 } : Room) (Pm D ct ad L φ N0 σ [.ref (ct (2000 + j0)), .int (iv x1)]) (Qi D ct ad L φ N0 Q) 0 0 (AA N0) := by
  refine m_ofF (by decide +kernel) (fun p e s m below meth c X hnm h => ?_)
  have hF := X.2.2.2.2.2.2.2.2.1
  have hl := lv_entry ([.ref (ct (2000 + j0)), .int (iv x1)]) (n := 2) (Nat.le_of_ble_eq_true rfl)
  rw [lg_entry_eq]
  generalize (lg_sl ([.ref (ct (2000 + j0)), .int (iv x1)]) ++ List.replicate (2 - (lg_sl ([.ref (ct (2000 + j0)), .int (iv x1)])).length) Slot.unset).toArray = ls at hl ⊢
  have hl : lv_has ls 2 [(0, .ref (ct (2000 + j0))), (1, .int (iv x1))] := hl
  have h : Hs D ct ad L φ N0 s.heap σ s.heap [] := h
  unfold wp_J0_charAt_5068e at hw
  refine lv_aload_n X.1 X.2.1 dJ0_charAt_5068e_0 rfl (lv_at hl 0 rfl) ?_
  obtain ⟨g_1, hw⟩ := hw
  refine k_i h (r_VS (i := j0) (As := []) (rest := []) X h (c_J0_isLatin1_aae02 l D ct ad L φ N0 σ j0 _ hw) rfl rfl ⟨Nat.le_of_ble_eq_true rfl, Nat.le_of_ble_eq_true rfl⟩ kw_992 kw_993 kw_994 kw_133 kw_995 ⟨rfl, pd_J0_isLatin1_aae02⟩ g_1 rfl hl.1 rfl (Nat.le_of_ble_eq_true rfl) ⟨Nat.le_of_ble_eq_true rfl, Nat.le_of_ble_eq_true rfl⟩ dJ0_charAt_5068e_1) (fun r_3 σ_2 H locs hw h => ?_)
  obtain ⟨g_4, hwt, hwf⟩ := hw
  refine j_if_eq (tgt := 16) X g_4 dJ0_charAt_5068e_4 (by decide) (fun c_11 => ?_) (fun c_11 => ?_)
  · have hw := hwt c_11
    refine lv_aload_n X.1 X.2.1 dJ0_charAt_5068e_16 rfl (lv_at hl 0 rfl) ?_
    obtain ⟨g_5, hw⟩ := hw
    refine r_sget (v := .ref (ct (3000 + j0))) X h (X.2.2.2.2.2.2.2.1.2.2.2.2.2.1.1 j0 g_5).2.2.1 kw_2474 dJ0_charAt_5068e_17 ?_
    refine lv_iload_n X.1 X.2.1 dJ0_charAt_5068e_20 rfl (lv_at hl 1 rfl) ?_
    exact hw.elim
  · have hw := hwf c_11
    refine lv_aload_n X.1 X.2.1 dJ0_charAt_5068e_7 rfl (lv_at hl 0 rfl) ?_
    obtain ⟨g_6, hw⟩ := hw
    refine r_sget (v := .ref (ct (3000 + j0))) X h (X.2.2.2.2.2.2.2.1.2.2.2.2.2.1.1 j0 g_6).2.2.1 kw_2474 dJ0_charAt_5068e_8 ?_
    refine lv_iload_n X.1 X.2.1 dJ0_charAt_5068e_11 rfl (lv_at hl 1 rfl) ?_
    refine k_i h (r_S (As := [.ref (ct (3000 + j0)), .int (iv x1)]) (rest := []) X h (c_J1_charAt_3b067 l D ct ad L φ N0 σ_2 j0 x1 _ hw) rfl rfl ⟨Nat.le_of_ble_eq_true rfl, Nat.le_of_ble_eq_true rfl⟩ kw_1088 kw_1089 kw_134 kw_1090 pd_J1_charAt_3b067 rfl hl.1 rfl (Nat.le_of_ble_eq_true rfl) ⟨Nat.le_of_ble_eq_true rfl, Nat.le_of_ble_eq_true rfl⟩ dJ0_charAt_5068e_12) (fun r_8 σ_7 H locs hw h => ?_)
    obtain ⟨g_9, g_10, hw⟩ := hw
    exact k_ir X (nc_n g_9 g_10) h hw dJ0_charAt_5068e_15
end
section
variable {p : Program} {l : Launch} {e : Env} {s : State} {m : MethodId} {args : Array Value} {below : List Frame} {meth : Method} {c : Code} {D : va_G} {ct : Nat → ClassId} {ad : Nat → Nat → Nat} {L : List (Nat × Nat)} {φ : Nat → Nat → Nat → Bool} {N0 : Nat}
variable {Q : Int → St → Prop}
set_option maxRecDepth 100000 in
set_option maxHeartbeats 4000000 in
theorem lb_X9_isPart_20 (X : Cx p s m meth c args cX9_isPart 5 (some .boolean) RX9 D ct L φ N0) : ∀ (n : Nat) (σ : St) (j1 : Nat) (x2 : Int) (x3 : Int) (x4 : Int) (H : Heap) (locs : List Loc) (ls : Array Slot), wp_X9_isPart_20 Q n σ j1 x2 x3 x4 → Hs D ct ad L φ N0 s.heap σ H locs → lv_has ls 5 [(0, .ref (ad 9 0)), (1, .ref (ct (2000 + j1))), (2, .int (iv x2)), (3, .int (iv x3)), (4, .int (iv x4))] → W p l e ({ frames := 4, cells := 0, slots := 0, locals := 85 } : Room) s m args below meth c H locs 0 0 (MQ below (Qi D ct ad L φ N0 Q) args s 0 0 (AA N0)) (F0 m 20 ls []) := by
  have hF := X.2.2.2.2.2.2.2.2.1
  intro n
  induction n with
  | zero => intro σ j1 x2 x3 x4 H locs ls hw; exact hw.elim
  | succ n ih =>
    intro σ j1 x2 x3 x4 H locs ls hw h hl
    unfold wp_X9_isPart_20 at hw
    refine lv_iload X.1 X.2.1 dX9_isPart_20 (lv_at hl 4 rfl) ?_
    refine lv_iload_n X.1 X.2.1 dX9_isPart_22 rfl (lv_at hl 3 rfl) ?_
    refine lv_iload_n X.1 X.2.1 dX9_isPart_23 rfl (lv_at hl 2 rfl) ?_
    refine j_isub X dX9_isPart_24 ?_
    obtain ⟨g_1, g_2, hwt, hwf⟩ := hw
    refine j_cmp_ge (tgt := 59) X g_1 g_2 dX9_isPart_25 (by decide) (fun c_11 => ?_) (fun c_11 => ?_)
    · have hw := hwt c_11
      refine j_iconst X dX9_isPart_59 ?_
      exact k_ir X rfl h hw dX9_isPart_60
    · have hw := hwf c_11
      refine lv_aload_n X.1 X.2.1 dX9_isPart_28 rfl (lv_at hl 1 rfl) ?_
      refine lv_iload_n X.1 X.2.1 dX9_isPart_29 rfl (lv_at hl 2 rfl) ?_
      refine lv_iload X.1 X.2.1 dX9_isPart_30 (lv_at hl 4 rfl) ?_
      refine j_iadd X dX9_isPart_32 ?_
      obtain ⟨g_3, hw⟩ := hw
      refine k_i h (r_VS (i := j1) (As := [.int (iv (x2 + x4))]) (rest := []) X h (c_J0_charAt_5068e l D ct ad L φ N0 σ j1 (x2 + x4) _ hw) rfl rfl ⟨Nat.le_of_ble_eq_true rfl, Nat.le_of_ble_eq_true rfl⟩ kw_1084 kw_1085 kw_1086 kw_133 kw_1087 ⟨rfl, pd_J0_charAt_5068e⟩ g_3 rfl hl.1 rfl (Nat.le_of_ble_eq_true rfl) ⟨Nat.le_of_ble_eq_true rfl, Nat.le_of_ble_eq_true rfl⟩ dX9_isPart_33) (fun r_5 σ_4 H locs hw h => ?_)
      refine lv_aload_n X.1 X.2.1 dX9_isPart_36 rfl (lv_at hl 0 rfl) ?_
      refine r_getR (ci := 9) X inw_9 h (hF.1 9 rfl).1 rfl rfl 0 (by decide) kw_256 rfl ((hF.1 9 rfl).2 0) dX9_isPart_37 ?_
      refine lv_aload_n X.1 X.2.1 dX9_isPart_40 rfl (lv_at hl 0 rfl) ?_
      refine r_get (ci := 9) X inw_9 h (hF.1 9 rfl).1 rfl rfl 3 (by decide) kw_261 rfl dX9_isPart_41 ?_
      refine lv_iload X.1 X.2.1 dX9_isPart_44 (lv_at hl 4 rfl) ?_
      refine j_iadd X dX9_isPart_46 ?_
      obtain ⟨g_6, g_7, hw⟩ := hw
      refine r_iald (n := 300) X h (hF.1 76 rfl).1 rfl (by decide) g_6 g_7 dX9_isPart_47 ?_
      obtain ⟨g_8, g_9, hwt, hwf⟩ := hw
      refine j_cmp_eq (tgt := 53) X g_8 g_9 dX9_isPart_48 (by decide) (fun c_10 => ?_) (fun c_10 => ?_)
      · have hw := hwt c_10
        refine j_iinc (kk9 := 4) (lv' := [(4, .int (iv (x4 + 1))), (0, .ref (ad 9 0)), (1, .ref (ct (2000 + j1))), (2, .int (iv x2)), (3, .int (iv x3))]) X dX9_isPart_53 hl rfl (by decide) rfl (fun ls hl => ?_)
        refine lv_goto (tgt := 20) X.1 X.2.1 dX9_isPart_56 (by decide) ?_
        exact ih σ_4 j1 x2 x3 (x4 + 1) _ _ _ hw h (lv_sub hl [1, 2, 3, 4, 0] rfl)
      · have hw := hwf c_10
        refine j_iconst X dX9_isPart_51 ?_
        exact k_ir X rfl h hw dX9_isPart_52
theorem pd_X9_isPart : yX9_isPart.cls ≠ "java/lang/invoke/MethodHandle" ∧ yX9_isPart.cls ≠ "java/lang/invoke/VarHandle" ∧ (parseMethodDescriptor yX9_isPart.desc).map (fun d => d.parameters.length) = some 3 := by decide +kernel
set_option maxRecDepth 100000 in
set_option maxHeartbeats 4000000 in
theorem c_X9_isPart (l : Launch) (D : va_G) (ct : Nat → ClassId) (ad : Nat → Nat → Nat) (L : List (Nat × Nat)) (φ : Nat → Nat → Nat → Bool) (N0 : Nat) (σ : St) (j1 : Nat) (x2 : Int) (x3 : Int) (Q : Int → St → Prop) (hw : wp_X9_isPart σ j1 x2 x3 Q) : Met l yX9_isPart (.code yX9_isPart cX9_isPart 5 (some .boolean) :: gw) ({ frames := 4, cells := 0, slots := 0, locals := 85 } : Room) (Pm D ct ad L φ N0 σ [.ref (ad 9 0), .ref (ct (2000 + j1)), .int (iv x2), .int (iv x3)]) (Qi D ct ad L φ N0 Q) 0 0 (AA N0) := by
  refine m_of (by decide) (fun p e s m below meth c X hnm h => ?_)
  have hF := X.2.2.2.2.2.2.2.2.1
  have hl := lv_entry ([.ref (ad 9 0), .ref (ct (2000 + j1)), .int (iv x2), .int (iv x3)]) (n := 5) (Nat.le_of_ble_eq_true rfl)
  rw [lg_entry_eq]
  generalize (lg_sl ([.ref (ad 9 0), .ref (ct (2000 + j1)), .int (iv x2), .int (iv x3)]) ++ List.replicate (5 - (lg_sl ([.ref (ad 9 0), .ref (ct (2000 + j1)), .int (iv x2), .int (iv x3)])).length) Slot.unset).toArray = ls at hl ⊢
  have hl : lv_has ls 5 [(0, .ref (ad 9 0)), (1, .ref (ct (2000 + j1))), (2, .int (iv x2)), (3, .int (iv x3))] := hl
  have h : Hs D ct ad L φ N0 s.heap σ s.heap [] := h
  unfold wp_X9_isPart at hw
  refine lv_iload_n X.1 X.2.1 dX9_isPart_0 rfl (lv_at hl 3 rfl) ?_
  refine lv_iload_n X.1 X.2.1 dX9_isPart_1 rfl (lv_at hl 2 rfl) ?_
  refine j_isub X dX9_isPart_2 ?_
  refine lv_aload_n X.1 X.2.1 dX9_isPart_3 rfl (lv_at hl 0 rfl) ?_
  refine r_get (ci := 9) X inw_9 h (hF.1 9 rfl).1 rfl rfl 4 (by decide) kw_263 rfl dX9_isPart_4 ?_
  refine lv_aload_n X.1 X.2.1 dX9_isPart_7 rfl (lv_at hl 0 rfl) ?_
  refine r_get (ci := 9) X inw_9 h (hF.1 9 rfl).1 rfl rfl 3 (by decide) kw_261 rfl dX9_isPart_8 ?_
  refine j_isub X dX9_isPart_11 ?_
  obtain ⟨g_12, g_13, hwt, hwf⟩ := hw
  refine j_cmp_eq (tgt := 17) X g_12 g_13 dX9_isPart_12 (by decide) (fun c_14 => ?_) (fun c_14 => ?_)
  · have hw := hwt c_14
    refine j_iconst X dX9_isPart_17 ?_
    refine lv_istore (lv' := [(4, .int (iv 0)), (0, .ref (ad 9 0)), (1, .ref (ct (2000 + j1))), (2, .int (iv x2)), (3, .int (iv x3))]) X.1 X.2.1 dX9_isPart_18 hl (by decide) rfl (fun ls hl => ?_)
    exact hw.elim (fun n20 hw => lb_X9_isPart_20 X n20 σ j1 x2 x3 0 _ _ _ hw h (lv_sub hl [1, 2, 3, 4, 0] rfl))
  · have hw := hwf c_14
    refine j_iconst X dX9_isPart_15 ?_
    exact k_ir X rfl h hw dX9_isPart_16
end
section
variable {p : Program} {l : Launch} {e : Env} {s : State} {m : MethodId} {args : Array Value} {below : List Frame} {meth : Method} {c : Code} {D : va_G} {ct : Nat → ClassId} {ad : Nat → Nat → Nat} {L : List (Nat × Nat)} {φ : Nat → Nat → Nat → Bool} {N0 : Nat}
variable {Q : Int → St → Prop}
set_option maxRecDepth 100000 in
set_option maxHeartbeats 4000000 in
theorem lb_X9_wordIn_65 (X : Cx p s m meth c args cX9_wordIn 5 (some .int) RX9 D ct L φ N0) {K7 : St → Nat → Int → Int → Int → Prop} (hK7 : ∀ (σ : St) (j1 : Nat) (x2 : Int) (x3 : Int) (x4 : Int) (H : Heap) (locs : List Loc) (ls : Array Slot), K7 σ j1 x2 x3 x4 → Hs D ct ad L φ N0 s.heap σ H locs → lv_has ls 5 [(0, .ref (ad 9 0)), (1, .ref (ct (2000 + j1))), (2, .int (iv x2)), (3, .int (iv x3)), (4, .int (iv x4))] → W p l e ({ frames := 5, cells := 0, slots := 0, locals := 109 } : Room) s m args below meth c H locs 0 0 (MQ below (Qi D ct ad L φ N0 Q) args s 0 0 (AA N0)) (F0 m 7 ls [])) (σ : St) (j1 : Nat) (x2 : Int) (x3 : Int) (x4 : Int) (H : Heap) (locs : List Loc) (ls : Array Slot) (hw : wp_X9_wordIn_65 K7 Q σ j1 x2 x3 x4) (h : Hs D ct ad L φ N0 s.heap σ H locs) (hl : lv_has ls 5 [(0, .ref (ad 9 0)), (1, .ref (ct (2000 + j1))), (2, .int (iv x2)), (3, .int (iv x3)), (4, .int (iv x4))]) : W p l e ({ frames := 5, cells := 0, slots := 0, locals := 109 } : Room) s m args below meth c H locs 0 0 (MQ below (Qi D ct ad L φ N0 Q) args s 0 0 (AA N0)) (F0 m 65 ls []) := by
  have hF := X.2.2.2.2.2.2.2.2.1
  unfold wp_X9_wordIn_65 at hw
  refine j_iinc (kk9 := 4) (lv' := [(4, .int (iv (x4 + 1))), (0, .ref (ad 9 0)), (1, .ref (ct (2000 + j1))), (2, .int (iv x2)), (3, .int (iv x3))]) X dX9_wordIn_65 hl rfl (by decide) rfl (fun ls hl => ?_)
  refine lv_goto (tgt := 7) X.1 X.2.1 dX9_wordIn_68 (by decide) ?_
  exact hK7 σ j1 x2 x3 (x4 + 1) _ _ _ hw h (lv_sub hl [1, 2, 3, 4, 0] rfl)
set_option maxRecDepth 100000 in
set_option maxHeartbeats 4000000 in
theorem lb_X9_wordIn_44 (X : Cx p s m meth c args cX9_wordIn 5 (some .int) RX9 D ct L φ N0) {K7 : St → Nat → Int → Int → Int → Prop} (hK7 : ∀ (σ : St) (j1 : Nat) (x2 : Int) (x3 : Int) (x4 : Int) (H : Heap) (locs : List Loc) (ls : Array Slot), K7 σ j1 x2 x3 x4 → Hs D ct ad L φ N0 s.heap σ H locs → lv_has ls 5 [(0, .ref (ad 9 0)), (1, .ref (ct (2000 + j1))), (2, .int (iv x2)), (3, .int (iv x3)), (4, .int (iv x4))] → W p l e ({ frames := 5, cells := 0, slots := 0, locals := 109 } : Room) s m args below meth c H locs 0 0 (MQ below (Qi D ct ad L φ N0 Q) args s 0 0 (AA N0)) (F0 m 7 ls [])) (σ : St) (j1 : Nat) (x2 : Int) (x3 : Int) (x4 : Int) (H : Heap) (locs : List Loc) (ls : Array Slot) (hw : wp_X9_wordIn_44 K7 Q σ j1 x2 x3 x4) (h : Hs D ct ad L φ N0 s.heap σ H locs) (hl : lv_has ls 5 [(0, .ref (ad 9 0)), (1, .ref (ct (2000 + j1))), (2, .int (iv x2)), (3, .int (iv x3)), (4, .int (iv x4))]) : W p l e ({ frames := 5, cells := 0, slots := 0, locals := 109 } : Room) s m args below meth c H locs 0 0 (MQ below (Qi D ct ad L φ N0 Q) args s 0 0 (AA N0)) (F0 m 44 ls []) := by
  have hF := X.2.2.2.2.2.2.2.2.1
  unfold wp_X9_wordIn_44 at hw
  refine lv_aload_n X.1 X.2.1 dX9_wordIn_44 rfl (lv_at hl 0 rfl) ?_
  refine lv_aload_n X.1 X.2.1 dX9_wordIn_45 rfl (lv_at hl 1 rfl) ?_
  refine lv_iload_n X.1 X.2.1 dX9_wordIn_46 rfl (lv_at hl 3 rfl) ?_
  refine lv_iload X.1 X.2.1 dX9_wordIn_47 (lv_at hl 4 rfl) ?_
  refine k_i h (r_V (C := RX9) (ci := 9) (As := [.ref (ct (2000 + j1)), .int (iv x3), .int (iv x4)]) (rest := []) X h (c_X9_isPart l D ct ad L φ N0 σ j1 x3 x4 _ hw) rfl rfl ⟨Nat.le_of_ble_eq_true rfl, Nat.le_of_ble_eq_true rfl⟩ kw_1104 kw_1106 kw_28 kw_124 kw_1107 ⟨rfl, pd_X9_isPart⟩ (hF.1 9 rfl).1 rfl rfl rfl hl.1 rfl (Nat.le_of_ble_eq_true rfl) ⟨Nat.le_of_ble_eq_true rfl, Nat.le_of_ble_eq_true rfl⟩ dX9_wordIn_49) (fun r_2 σ_1 H locs hw h => ?_)
  obtain ⟨g_3, hwt, hwf⟩ := hw
  refine j_if_eq (tgt := 57) X g_3 dX9_wordIn_52 (by decide) (fun c_5 => ?_) (fun c_5 => ?_)
  · have hw := hwt c_5
    refine j_iinc (kk9 := 2) (lv' := [(2, .int (iv (x2 + 1))), (0, .ref (ad 9 0)), (1, .ref (ct (2000 + j1))), (3, .int (iv x3)), (4, .int (iv x4))]) X dX9_wordIn_57 hl rfl (by decide) rfl (fun ls hl => ?_)
    refine lv_iload X.1 X.2.1 dX9_wordIn_60 (lv_at hl 4 rfl) ?_
    refine j_iconst X dX9_wordIn_62 ?_
    refine j_iadd X dX9_wordIn_63 ?_
    refine j_bind (fun v_4 ev_4 => ?_)
    have hw := hw v_4 ev_4
    refine lv_istore_n (lv' := [(3, .int (iv v_4)), (2, .int (iv (x2 + 1))), (0, .ref (ad 9 0)), (1, .ref (ct (2000 + j1))), (4, .int (iv x4))]) X.1 X.2.1 dX9_wordIn_64 rfl hl (by decide) rfl (fun ls hl => ?_)
    exact lb_X9_wordIn_65 X hK7 σ_1 j1 (x2 + 1) v_4 x4 _ _ _ hw h (lv_sub hl [2, 3, 1, 0, 4] rfl)
  · have hw := hwf c_5
    refine lv_iload_n X.1 X.2.1 dX9_wordIn_55 rfl (lv_at hl 2 rfl) ?_
    exact k_ir X rfl h hw dX9_wordIn_56
set_option maxRecDepth 100000 in
set_option maxHeartbeats 4000000 in
theorem lb_X9_wordIn_7 (X : Cx p s m meth c args cX9_wordIn 5 (some .int) RX9 D ct L φ N0) : ∀ (n : Nat) (σ : St) (j1 : Nat) (x2 : Int) (x3 : Int) (x4 : Int) (H : Heap) (locs : List Loc) (ls : Array Slot), wp_X9_wordIn_7 Q n σ j1 x2 x3 x4 → Hs D ct ad L φ N0 s.heap σ H locs → lv_has ls 5 [(0, .ref (ad 9 0)), (1, .ref (ct (2000 + j1))), (2, .int (iv x2)), (3, .int (iv x3)), (4, .int (iv x4))] → W p l e ({ frames := 5, cells := 0, slots := 0, locals := 109 } : Room) s m args below meth c H locs 0 0 (MQ below (Qi D ct ad L φ N0 Q) args s 0 0 (AA N0)) (F0 m 7 ls []) := by
  have hF := X.2.2.2.2.2.2.2.2.1
  intro n
  induction n with
  | zero => intro σ j1 x2 x3 x4 H locs ls hw; exact hw.elim
  | succ n ih =>
    intro σ j1 x2 x3 x4 H locs ls hw h hl
    unfold wp_X9_wordIn_7 at hw
    refine lv_iload X.1 X.2.1 dX9_wordIn_7 (lv_at hl 4 rfl) ?_
    refine lv_aload_n X.1 X.2.1 dX9_wordIn_9 rfl (lv_at hl 1 rfl) ?_
    obtain ⟨g_6, hw⟩ := hw
    refine k_i h (r_VS (i := j1) (As := []) (rest := [.int (iv x4)]) X h (c_J0_length_8abf5 l D ct ad L φ N0 σ j1 _ hw) rfl rfl ⟨Nat.le_of_ble_eq_true rfl, Nat.le_of_ble_eq_true rfl⟩ kw_1083 kw_999 kw_1000 kw_133 kw_1001 ⟨rfl, pd_J0_length_8abf5⟩ g_6 rfl hl.1 rfl (Nat.le_of_ble_eq_true rfl) ⟨Nat.le_of_ble_eq_true rfl, Nat.le_of_ble_eq_true rfl⟩ dX9_wordIn_10) (fun r_8 σ_7 H locs hw h => ?_)
    obtain ⟨g_9, g_10, hwt, hwf⟩ := hw
    refine j_cmp_gt (tgt := 71) X g_9 g_10 dX9_wordIn_13 (by decide) (fun c_24 => ?_) (fun c_24 => ?_)
    · have hw := hwt c_24
      refine j_iconst X dX9_wordIn_71 ?_
      exact k_ir X rfl h hw dX9_wordIn_72
    · have hw := hwf c_24
      refine lv_aload_n X.1 X.2.1 dX9_wordIn_16 rfl (lv_at hl 0 rfl) ?_
      refine r_get (ci := 9) X inw_9 h (hF.1 9 rfl).1 rfl rfl 2 (by decide) kw_260 rfl dX9_wordIn_17 ?_
      refine j_iconst X dX9_wordIn_20 ?_
      obtain ⟨g_11, hwt, hwf⟩ := hw
      refine j_cmp_ne (tgt := 71) X g_11 ⟨by decide, by decide⟩ dX9_wordIn_21 (by decide) (fun c_23 => ?_) (fun c_23 => ?_)
      · have hw := hwt c_23
        refine j_iconst X dX9_wordIn_71 ?_
        exact k_ir X rfl h hw dX9_wordIn_72
      · have hw := hwf c_23
        refine lv_iload X.1 X.2.1 dX9_wordIn_24 (lv_at hl 4 rfl) ?_
        refine lv_aload_n X.1 X.2.1 dX9_wordIn_26 rfl (lv_at hl 1 rfl) ?_
        obtain ⟨g_12, hw⟩ := hw
        refine k_i h (r_VS (i := j1) (As := []) (rest := [.int (iv x4)]) X h (c_J0_length_8abf5 l D ct ad L φ N0 σ_7 j1 _ hw) rfl rfl ⟨Nat.le_of_ble_eq_true rfl, Nat.le_of_ble_eq_true rfl⟩ kw_1083 kw_999 kw_1000 kw_133 kw_1001 ⟨rfl, pd_J0_length_8abf5⟩ g_12 rfl hl.1 rfl (Nat.le_of_ble_eq_true rfl) ⟨Nat.le_of_ble_eq_true rfl, Nat.le_of_ble_eq_true rfl⟩ dX9_wordIn_27) (fun r_14 σ_13 H locs hw h => ?_)
        obtain ⟨g_15, g_16, hwt, hwf⟩ := hw
        refine j_cmp_eq (tgt := 44) X g_15 g_16 dX9_wordIn_30 (by decide) (fun c_22 => ?_) (fun c_22 => ?_)
        · have hw := hwt c_22
          exact lb_X9_wordIn_44 X ih σ_13 j1 x2 x3 x4 _ _ _ hw h (lv_sub hl [0, 1, 2, 3, 4] rfl)
        · have hw := hwf c_22
          refine lv_aload_n X.1 X.2.1 dX9_wordIn_33 rfl (lv_at hl 1 rfl) ?_
          refine lv_iload X.1 X.2.1 dX9_wordIn_34 (lv_at hl 4 rfl) ?_
          obtain ⟨g_17, hw⟩ := hw
          refine k_i h (r_VS (i := j1) (As := [.int (iv x4)]) (rest := []) X h (c_J0_charAt_5068e l D ct ad L φ N0 σ_13 j1 x4 _ hw) rfl rfl ⟨Nat.le_of_ble_eq_true rfl, Nat.le_of_ble_eq_true rfl⟩ kw_1084 kw_1085 kw_1086 kw_133 kw_1087 ⟨rfl, pd_J0_charAt_5068e⟩ g_17 rfl hl.1 rfl (Nat.le_of_ble_eq_true rfl) ⟨Nat.le_of_ble_eq_true rfl, Nat.le_of_ble_eq_true rfl⟩ dX9_wordIn_36) (fun r_19 σ_18 H locs hw h => ?_)
          refine j_bipush X dX9_wordIn_39 (by decide) ?_
          obtain ⟨g_20, hwt, hwf⟩ := hw
          refine j_cmp_ne (tgt := 65) X g_20 ⟨by decide, by decide⟩ dX9_wordIn_41 (by decide) (fun c_21 => ?_) (fun c_21 => ?_)
          · have hw := hwt c_21
            exact lb_X9_wordIn_65 X ih σ_18 j1 x2 x3 x4 _ _ _ hw h (lv_sub hl [0, 1, 2, 3, 4] rfl)
          · have hw := hwf c_21
            exact lb_X9_wordIn_44 X ih σ_18 j1 x2 x3 x4 _ _ _ hw h (lv_sub hl [0, 1, 2, 3, 4] rfl)
theorem pd_X9_wordIn : yX9_wordIn.cls ≠ "java/lang/invoke/MethodHandle" ∧ yX9_wordIn.cls ≠ "java/lang/invoke/VarHandle" ∧ (parseMethodDescriptor yX9_wordIn.desc).map (fun d => d.parameters.length) = some 1 := by decide +kernel
set_option maxRecDepth 100000 in
set_option maxHeartbeats 4000000 in
theorem c_X9_wordIn (l : Launch) (D : va_G) (ct : Nat → ClassId) (ad : Nat → Nat → Nat) (L : List (Nat × Nat)) (φ : Nat → Nat → Nat → Bool) (N0 : Nat) (σ : St) (j1 : Nat) (Q : Int → St → Prop) (hw : wp_X9_wordIn σ j1 Q) : Met l yX9_wordIn (.code yX9_wordIn cX9_wordIn 5 (some .int) :: gw) ({ frames := 5, cells := 0, slots := 0, locals := 109 } : Room) (Pm D ct ad L φ N0 σ [.ref (ad 9 0), .ref (ct (2000 + j1))]) (Qi D ct ad L φ N0 Q) 0 0 (AA N0) := by
  refine m_of (by decide) (fun p e s m below meth c X hnm h => ?_)
  have hF := X.2.2.2.2.2.2.2.2.1
  have hl := lv_entry ([.ref (ad 9 0), .ref (ct (2000 + j1))]) (n := 5) (Nat.le_of_ble_eq_true rfl)
  rw [lg_entry_eq]
  generalize (lg_sl ([.ref (ad 9 0), .ref (ct (2000 + j1))]) ++ List.replicate (5 - (lg_sl ([.ref (ad 9 0), .ref (ct (2000 + j1))])).length) Slot.unset).toArray = ls at hl ⊢
  have hl : lv_has ls 5 [(0, .ref (ad 9 0)), (1, .ref (ct (2000 + j1)))] := hl
  have h : Hs D ct ad L φ N0 s.heap σ s.heap [] := h
  unfold wp_X9_wordIn at hw
  refine j_iconst X dX9_wordIn_0 ?_
  refine lv_istore_n (lv' := [(2, .int (iv 0)), (0, .ref (ad 9 0)), (1, .ref (ct (2000 + j1)))]) X.1 X.2.1 dX9_wordIn_1 rfl hl (by decide) rfl (fun ls hl => ?_)
  refine j_iconst X dX9_wordIn_2 ?_
  refine lv_istore_n (lv' := [(3, .int (iv 0)), (2, .int (iv 0)), (0, .ref (ad 9 0)), (1, .ref (ct (2000 + j1)))]) X.1 X.2.1 dX9_wordIn_3 rfl hl (by decide) rfl (fun ls hl => ?_)
  refine j_iconst X dX9_wordIn_4 ?_
  refine lv_istore (lv' := [(4, .int (iv 0)), (3, .int (iv 0)), (2, .int (iv 0)), (0, .ref (ad 9 0)), (1, .ref (ct (2000 + j1)))]) X.1 X.2.1 dX9_wordIn_5 hl (by decide) rfl (fun ls hl => ?_)
  exact hw.elim (fun n7 hw => lb_X9_wordIn_7 X n7 σ j1 0 0 0 _ _ _ hw h (lv_sub hl [3, 4, 2, 1, 0] rfl))
end
section
variable {p : Program} {l : Launch} {e : Env} {s : State} {m : MethodId} {args : Array Value} {below : List Frame} {meth : Method} {c : Code} {D : va_G} {ct : Nat → ClassId} {ad : Nat → Nat → Nat} {L : List (Nat × Nat)} {φ : Nat → Nat → Nat → Bool} {N0 : Nat}
variable {Q : Int → St → Prop}
theorem pd_X8_refuse : yX8_refuse.cls ≠ "java/lang/invoke/MethodHandle" ∧ yX8_refuse.cls ≠ "java/lang/invoke/VarHandle" ∧ (parseMethodDescriptor yX8_refuse.desc).map (fun d => d.parameters.length) = some 2 := by decide +kernel
set_option maxRecDepth 100000 in
set_option maxHeartbeats 4000000 in
theorem c_X8_refuse (l : Launch) (D : va_G) (ct : Nat → ClassId) (ad : Nat → Nat → Nat) (L : List (Nat × Nat)) (φ : Nat → Nat → Nat → Bool) (N0 : Nat) (σ : St) (x2 : Int) (Q : Int → St → Prop) (hw : wp_X8_refuse σ x2 Q) : Met l yX8_refuse (.code yX8_refuse cX8_refuse 3 (some .int) :: gw) ({ frames := 0, cells := 0, slots := 0, locals := 0 } : Room) (Pm D ct ad L φ N0 σ [.ref (ad 8 0), .ref (ad 9 0), .int (iv x2)]) (Qi D ct ad L φ N0 Q) 0 0 (AA N0) := by
  refine m_of (by decide) (fun p e s m below meth c X hnm h => ?_)
  have hF := X.2.2.2.2.2.2.2.2.1
  have hl := lv_entry ([.ref (ad 8 0), .ref (ad 9 0), .int (iv x2)]) (n := 3) (Nat.le_of_ble_eq_true rfl)
  rw [lg_entry_eq]
  generalize (lg_sl ([.ref (ad 8 0), .ref (ad 9 0), .int (iv x2)]) ++ List.replicate (3 - (lg_sl ([.ref (ad 8 0), .ref (ad 9 0), .int (iv x2)])).length) Slot.unset).toArray = ls at hl ⊢
  have hl : lv_has ls 3 [(0, .ref (ad 8 0)), (1, .ref (ad 9 0)), (2, .int (iv x2))] := hl
  have h : Hs D ct ad L φ N0 s.heap σ s.heap [] := h
  unfold wp_X8_refuse at hw
  refine lv_aload_n X.1 X.2.1 dX8_refuse_0 rfl (lv_at hl 0 rfl) ?_
  refine lv_iload_n X.1 X.2.1 dX8_refuse_1 rfl (lv_at hl 2 rfl) ?_
  refine r_put (ci := 8) X inw_8 tyX8 tyX8_ok nmX8 h (hF.1 8 rfl).1 rfl rfl 11 (by decide) kw_294 rfl rfl rfl (Nat.le_of_ble_eq_true rfl) rfl rfl dX8_refuse_2 (fun H locs h => ?_)
  obtain ⟨σ_1, eσ_1⟩ : ∃ z : St, z = st σ 8 0 11 x2 := ⟨_, rfl⟩
  rw [← eσ_1] at h
  have hw := hw σ_1 eσ_1
  refine lv_aload_n X.1 X.2.1 dX8_refuse_5 rfl (lv_at hl 0 rfl) ?_
  refine lv_aload_n X.1 X.2.1 dX8_refuse_6 rfl (lv_at hl 1 rfl) ?_
  refine r_getN (ci := 9) X inw_9 h (hF.1 9 rfl).1 rfl rfl 3 (by decide) kw_262 rfl dX8_refuse_7 ?_
  refine r_put (ci := 8) X inw_8 tyX8 tyX8_ok nmX8 h (hF.1 8 rfl).1 rfl rfl 12 (by decide) kw_295 rfl rfl rfl (Nat.le_of_ble_eq_true rfl) rfl rfl dX8_refuse_10 (fun H locs h => ?_)
  obtain ⟨σ_2, eσ_2⟩ : ∃ z : St, z = st σ_1 8 0 12 (σ_1 9 0 3) := ⟨_, rfl⟩
  rw [← eσ_2] at h
  have hw := hw σ_2 eσ_2
  refine j_iconst X dX8_refuse_13 ?_
  exact k_ir X rfl h hw dX8_refuse_14
end
section
variable {p : Program} {l : Launch} {e : Env} {s : State} {m : MethodId} {args : Array Value} {below : List Frame} {meth : Method} {c : Code} {D : va_G} {ct : Nat → ClassId} {ad : Nat → Nat → Nat} {L : List (Nat × Nat)} {φ : Nat → Nat → Nat → Bool} {N0 : Nat}
variable {Q : Int → St → Prop}
theorem pd_X8_statementAtHand : yX8_statementAtHand.cls ≠ "java/lang/invoke/MethodHandle" ∧ yX8_statementAtHand.cls ≠ "java/lang/invoke/VarHandle" ∧ (parseMethodDescriptor yX8_statementAtHand.desc).map (fun d => d.parameters.length) = some 0 := by decide +kernel
set_option maxRecDepth 100000 in
set_option maxHeartbeats 4000000 in
theorem c_X8_statementAtHand (l : Launch) (D : va_G) (ct : Nat → ClassId) (ad : Nat → Nat → Nat) (L : List (Nat × Nat)) (φ : Nat → Nat → Nat → Bool) (N0 : Nat) (σ : St) (Q : Int → St → Prop) (hw : wp_X8_statementAtHand σ Q) : Met l yX8_statementAtHand (.code yX8_statementAtHand cX8_statementAtHand 1 (some .int) :: gw) ({ frames := 0, cells := 0, slots := 0, locals := 0 } : Room) (Pm D ct ad L φ N0 σ [.ref (ad 8 0)]) (Qi D ct ad L φ N0 Q) 0 0 (AA N0) := by
  refine m_of (by decide) (fun p e s m below meth c X hnm h => ?_)
  have hF := X.2.2.2.2.2.2.2.2.1
  have hl := lv_entry ([.ref (ad 8 0)]) (n := 1) (Nat.le_of_ble_eq_true rfl)
  rw [lg_entry_eq]
  generalize (lg_sl ([.ref (ad 8 0)]) ++ List.replicate (1 - (lg_sl ([.ref (ad 8 0)])).length) Slot.unset).toArray = ls at hl ⊢
  have hl : lv_has ls 1 [(0, .ref (ad 8 0))] := hl
  have h : Hs D ct ad L φ N0 s.heap σ s.heap [] := h
  unfold wp_X8_statementAtHand at hw
  refine lv_aload_n X.1 X.2.1 dX8_statementAtHand_0 rfl (lv_at hl 0 rfl) ?_
  refine r_get (ci := 8) X inw_8 h (hF.1 8 rfl).1 rfl rfl 10 (by decide) kw_292 rfl dX8_statementAtHand_1 ?_
  refine j_bipush X dX8_statementAtHand_4 (by decide) ?_
  refine j_imul X dX8_statementAtHand_6 ?_
  refine lv_aload_n X.1 X.2.1 dX8_statementAtHand_7 rfl (lv_at hl 0 rfl) ?_
  refine r_getR (ci := 8) X inw_8 h (hF.1 8 rfl).1 rfl rfl 1 (by decide) kw_282 rfl ((hF.1 8 rfl).2 1) dX8_statementAtHand_8 ?_
  refine lv_aload_n X.1 X.2.1 dX8_statementAtHand_11 rfl (lv_at hl 0 rfl) ?_
  refine r_get (ci := 8) X inw_8 h (hF.1 8 rfl).1 rfl rfl 10 (by decide) kw_292 rfl dX8_statementAtHand_12 ?_
  obtain ⟨g_1, g_2, hw⟩ := hw
  refine r_iald (n := 20) X h (hF.1 67 rfl).1 rfl (by decide) g_1 g_2 dX8_statementAtHand_15 ?_
  refine j_iadd X dX8_statementAtHand_16 ?_
  refine j_iconst X dX8_statementAtHand_17 ?_
  refine j_isub X dX8_statementAtHand_18 ?_
  exact k_ir X rfl h hw dX8_statementAtHand_19
end
section
variable {p : Program} {l : Launch} {e : Env} {s : State} {m : MethodId} {args : Array Value} {below : List Frame} {meth : Method} {c : Code} {D : va_G} {ct : Nat → ClassId} {ad : Nat → Nat → Nat} {L : List (Nat × Nat)} {φ : Nat → Nat → Nat → Bool} {N0 : Nat}
variable {Q : Int → St → Prop}
theorem pd_X8_takeVerb : yX8_takeVerb.cls ≠ "java/lang/invoke/MethodHandle" ∧ yX8_takeVerb.cls ≠ "java/lang/invoke/VarHandle" ∧ (parseMethodDescriptor yX8_takeVerb.desc).map (fun d => d.parameters.length) = some 1 := by decide +kernel
set_option maxRecDepth 100000 in
set_option maxHeartbeats 4000000 in
theorem c_X8_takeVerb (l : Launch) (D : va_G) (ct : Nat → ClassId) (ad : Nat → Nat → Nat) (L : List (Nat × Nat)) (φ : Nat → Nat → Nat → Bool) (N0 : Nat) (σ : St) (Q : Int → St → Prop) (hw : wp_X8_takeVerb σ Q) : Met l yX8_takeVerb (.code yX8_takeVerb cX8_takeVerb 3 (some .int) :: gw) ({ frames := 6, cells := 0, slots := 0, locals := 133 } : Room) (Pm D ct ad L φ N0 σ [.ref (ad 8 0), .ref (ad 9 0)]) (Qi D ct ad L φ N0 Q) 0 0 (AA N0) := by
  refine m_of (by decide) (fun p e s m below meth c X hnm h => ?_)
  have hF := X.2.2.2.2.2.2.2.2.1
  have hl := lv_entry ([.ref (ad 8 0), .ref (ad 9 0)]) (n := 3) (Nat.le_of_ble_eq_true rfl)
  rw [lg_entry_eq]
  generalize (lg_sl ([.ref (ad 8 0), .ref (ad 9 0)]) ++ List.replicate (3 - (lg_sl ([.ref (ad 8 0), .ref (ad 9 0)])).length) Slot.unset).toArray = ls at hl ⊢
  have hl : lv_has ls 3 [(0, .ref (ad 8 0)), (1, .ref (ad 9 0))] := hl
  have h : Hs D ct ad L φ N0 s.heap σ s.heap [] := h
  unfold wp_X8_takeVerb at hw
  refine lv_aload_n X.1 X.2.1 dX8_takeVerb_0 rfl (lv_at hl 1 rfl) ?_
  refine r_ldcS X X.2.2.2.2.2.2.2.1.2.2.2.2.2.2.2.2.2.2.1 dX8_takeVerb_1 ?_
  refine k_i h (r_V (C := RX9) (ci := 9) (As := [.ref (ct (2000 + 1))]) (rest := []) X h (c_X9_wordIn l D ct ad L φ N0 σ 1 _ hw) rfl rfl ⟨Nat.le_of_ble_eq_true rfl, Nat.le_of_ble_eq_true rfl⟩ kw_1079 kw_1080 kw_1081 kw_124 kw_1082 ⟨rfl, pd_X9_wordIn⟩ (hF.1 9 rfl).1 rfl rfl rfl hl.1 rfl (Nat.le_of_ble_eq_true rfl) ⟨Nat.le_of_ble_eq_true rfl, Nat.le_of_ble_eq_true rfl⟩ dX8_takeVerb_3) (fun r_2 σ_1 H locs hw h => ?_)
  refine lv_istore_n (lv' := [(2, .int (iv r_2)), (0, .ref (ad 8 0)), (1, .ref (ad 9 0))]) X.1 X.2.1 dX8_takeVerb_6 rfl hl (by decide) rfl (fun ls hl => ?_)
  refine lv_iload_n X.1 X.2.1 dX8_takeVerb_7 rfl (lv_at hl 0 rfl) ?_
  refine j_iconst X dX8_takeVerb_8 ?_
  obtain ⟨g_3, hwt, hwf⟩ := hw
  refine j_cmp_ne (tgt := 19) X g_3 ⟨by decide, by decide⟩ dX8_takeVerb_9 (by decide) (fun c_29 => ?_) (fun c_29 => ?_)
  · have hw := hwt c_29
    refine lv_aload_n X.1 X.2.1 dX8_takeVerb_19 rfl (lv_at hl 1 rfl) ?_
    refine r_getR (ci := 8) X inw_8 h (hF.1 8 rfl).1 rfl rfl 1 (by decide) kw_282 rfl ((hF.1 8 rfl).2 1) dX8_takeVerb_20 ?_
    refine lv_aload_n X.1 X.2.1 dX8_takeVerb_23 rfl (lv_at hl 1 rfl) ?_
    refine r_get (ci := 8) X inw_8 h (hF.1 8 rfl).1 rfl rfl 10 (by decide) kw_292 rfl dX8_takeVerb_24 ?_
    obtain ⟨g_4, g_5, hw⟩ := hw
    refine r_iald (n := 20) X h (hF.1 67 rfl).1 rfl (by decide) g_4 g_5 dX8_takeVerb_27 ?_
    refine j_bipush X dX8_takeVerb_28 (by decide) ?_
    obtain ⟨g_6, hwt, hwf⟩ := hw
    refine j_cmp_lt (tgt := 40) X g_6 ⟨by decide, by decide⟩ dX8_takeVerb_30 (by decide) (fun c_26 => ?_) (fun c_26 => ?_)
    · have hw := hwt c_26
      refine lv_aload_n X.1 X.2.1 dX8_takeVerb_40 rfl (lv_at hl 1 rfl) ?_
      refine r_getR (ci := 8) X inw_8 h (hF.1 8 rfl).1 rfl rfl 1 (by decide) kw_282 rfl ((hF.1 8 rfl).2 1) dX8_takeVerb_41 ?_
      refine lv_aload_n X.1 X.2.1 dX8_takeVerb_44 rfl (lv_at hl 1 rfl) ?_
      refine r_get (ci := 8) X inw_8 h (hF.1 8 rfl).1 rfl rfl 10 (by decide) kw_292 rfl dX8_takeVerb_45 ?_
      refine lv_dup2_11 X.1 X.2.1 dX8_takeVerb_48 rfl rfl ?_
      obtain ⟨g_7, g_8, hw⟩ := hw
      refine r_iald (n := 20) X h (hF.1 67 rfl).1 rfl (by decide) g_7 g_8 dX8_takeVerb_49 ?_
      refine j_iconst X dX8_takeVerb_50 ?_
      refine j_iadd X dX8_takeVerb_51 ?_
      obtain ⟨g_9, g_10, hw⟩ := hw
      refine r_iast (n := 20) X h (hF.1 67 rfl).1 (fun _ => rfl) (by decide) g_9 g_10 rfl dX8_takeVerb_52 (fun H locs h => ?_)
      obtain ⟨σ_11, eσ_11⟩ : ∃ z : St, z = st σ_1 67 0 (Int.toNat (σ_1 8 0 10)) ((σ_1 67 0 (Int.toNat (σ_1 8 0 10))) + 1) := ⟨_, rfl⟩
      rw [← eσ_11] at h
      have hw := hw σ_11 eσ_11
      refine lv_aload_n X.1 X.2.1 dX8_takeVerb_53 rfl (lv_at hl 1 rfl) ?_
      refine r_getR (ci := 8) X inw_8 h (hF.1 8 rfl).1 rfl rfl 2 (by decide) kw_283 rfl ((hF.1 8 rfl).2 2) dX8_takeVerb_54 ?_
      refine lv_aload_n X.1 X.2.1 dX8_takeVerb_57 rfl (lv_at hl 1 rfl) ?_
      refine k_i h (r_V (C := RX8) (ci := 8) (As := []) (rest := [.ref (ad 68 0)]) X h (c_X8_statementAtHand l D ct ad L φ N0 σ_11 _ hw) rfl rfl ⟨Nat.le_of_ble_eq_true rfl, Nat.le_of_ble_eq_true rfl⟩ kw_1112 kw_1114 kw_30 kw_125 kw_1115 ⟨rfl, pd_X8_statementAtHand⟩ (hF.1 8 rfl).1 rfl rfl rfl hl.1 rfl (Nat.le_of_ble_eq_true rfl) ⟨Nat.le_of_ble_eq_true rfl, Nat.le_of_ble_eq_true rfl⟩ dX8_takeVerb_58) (fun r_13 σ_12 H locs hw h => ?_)
      refine lv_iload_n X.1 X.2.1 dX8_takeVerb_61 rfl (lv_at hl 0 rfl) ?_
      obtain ⟨g_14, g_15, hw⟩ := hw
      refine r_iast (n := 240) X h (hF.1 68 rfl).1 (fun _ => rfl) (by decide) g_14 g_15 rfl dX8_takeVerb_62 (fun H locs h => ?_)
      obtain ⟨σ_16, eσ_16⟩ : ∃ z : St, z = st σ_12 68 0 (Int.toNat r_13) r_2 := ⟨_, rfl⟩
      rw [← eσ_16] at h
      have hw := hw σ_16 eσ_16
      refine lv_aload_n X.1 X.2.1 dX8_takeVerb_63 rfl (lv_at hl 1 rfl) ?_
      refine r_getR (ci := 8) X inw_8 h (hF.1 8 rfl).1 rfl rfl 4 (by decide) kw_285 rfl ((hF.1 8 rfl).2 4) dX8_takeVerb_64 ?_
      refine lv_aload_n X.1 X.2.1 dX8_takeVerb_67 rfl (lv_at hl 1 rfl) ?_
      refine k_i h (r_V (C := RX8) (ci := 8) (As := []) (rest := [.ref (ad 70 0)]) X h (c_X8_statementAtHand l D ct ad L φ N0 σ_16 _ hw) rfl rfl ⟨Nat.le_of_ble_eq_true rfl, Nat.le_of_ble_eq_true rfl⟩ kw_1112 kw_1114 kw_30 kw_125 kw_1115 ⟨rfl, pd_X8_statementAtHand⟩ (hF.1 8 rfl).1 rfl rfl rfl hl.1 rfl (Nat.le_of_ble_eq_true rfl) ⟨Nat.le_of_ble_eq_true rfl, Nat.le_of_ble_eq_true rfl⟩ dX8_takeVerb_68) (fun r_18 σ_17 H locs hw h => ?_)
      refine j_iconst X dX8_takeVerb_71 ?_
      obtain ⟨g_19, g_20, hw⟩ := hw
      refine r_iast (n := 240) X h (hF.1 70 rfl).1 (fun _ => rfl) (by decide) g_19 g_20 rfl dX8_takeVerb_72 (fun H locs h => ?_)
      obtain ⟨σ_21, eσ_21⟩ : ∃ z : St, z = st σ_17 70 0 (Int.toNat r_18) 0 := ⟨_, rfl⟩
      rw [← eσ_21] at h
      have hw := hw σ_21 eσ_21
      refine lv_iload_n X.1 X.2.1 dX8_takeVerb_73 rfl (lv_at hl 0 rfl) ?_
      obtain ⟨g_22, hwt, hwf⟩ := hw
      refine j_if_ne (tgt := 81) X g_22 dX8_takeVerb_74 (by decide) (fun c_23 => ?_) (fun c_23 => ?_)
      · have hw := hwt c_23
        refine j_iconst X dX8_takeVerb_81 ?_
        exact k_ir X rfl h hw dX8_takeVerb_82
      · have hw := hwf c_23
        refine j_iconst X dX8_takeVerb_77 ?_
        refine lv_goto (tgt := 82) X.1 X.2.1 dX8_takeVerb_78 (by decide) ?_
        exact k_ir X rfl h hw dX8_takeVerb_82
    · have hw := hwf c_26
      refine lv_aload_n X.1 X.2.1 dX8_takeVerb_33 rfl (lv_at hl 1 rfl) ?_
      refine lv_aload_n X.1 X.2.1 dX8_takeVerb_34 rfl (lv_at hl 2 rfl) ?_
      refine j_iconst X dX8_takeVerb_35 ?_
      refine k_i h (r_V (C := RX8) (ci := 8) (As := [.ref (ad 9 0), .int (iv 2)]) (rest := []) X h (c_X8_refuse l D ct ad L φ N0 σ_1 2 _ hw) rfl rfl ⟨Nat.le_of_ble_eq_true rfl, Nat.le_of_ble_eq_true rfl⟩ kw_1108 kw_1110 kw_29 kw_125 kw_1111 ⟨rfl, pd_X8_refuse⟩ (hF.1 8 rfl).1 rfl rfl rfl hl.1 rfl (Nat.le_of_ble_eq_true rfl) ⟨Nat.le_of_ble_eq_true rfl, Nat.le_of_ble_eq_true rfl⟩ dX8_takeVerb_36) (fun r_25 σ_24 H locs hw h => ?_)
      exact k_ir X rfl h hw dX8_takeVerb_39
  · have hw := hwf c_29
    refine lv_aload_n X.1 X.2.1 dX8_takeVerb_12 rfl (lv_at hl 1 rfl) ?_
    refine lv_aload_n X.1 X.2.1 dX8_takeVerb_13 rfl (lv_at hl 2 rfl) ?_
    refine j_iconst X dX8_takeVerb_14 ?_
    refine k_i h (r_V (C := RX8) (ci := 8) (As := [.ref (ad 9 0), .int (iv 1)]) (rest := []) X h (c_X8_refuse l D ct ad L φ N0 σ_1 1 _ hw) rfl rfl ⟨Nat.le_of_ble_eq_true rfl, Nat.le_of_ble_eq_true rfl⟩ kw_1108 kw_1110 kw_29 kw_125 kw_1111 ⟨rfl, pd_X8_refuse⟩ (hF.1 8 rfl).1 rfl rfl rfl hl.1 rfl (Nat.le_of_ble_eq_true rfl) ⟨Nat.le_of_ble_eq_true rfl, Nat.le_of_ble_eq_true rfl⟩ dX8_takeVerb_15) (fun r_28 σ_27 H locs hw h => ?_)
    exact k_ir X rfl h hw dX8_takeVerb_18
end
section
variable {p : Program} {l : Launch} {e : Env} {s : State} {m : MethodId} {args : Array Value} {below : List Frame} {meth : Method} {c : Code} {D : va_G} {ct : Nat → ClassId} {ad : Nat → Nat → Nat} {L : List (Nat × Nat)} {φ : Nat → Nat → Nat → Bool} {N0 : Nat}
variable {Q : Int → St → Prop}
theorem pd_X8_takeObject : yX8_takeObject.cls ≠ "java/lang/invoke/MethodHandle" ∧ yX8_takeObject.cls ≠ "java/lang/invoke/VarHandle" ∧ (parseMethodDescriptor yX8_takeObject.desc).map (fun d => d.parameters.length) = some 2 := by decide +kernel
set_option maxRecDepth 100000 in
set_option maxHeartbeats 4000000 in
theorem c_X8_takeObject (l : Launch) (D : va_G) (ct : Nat → ClassId) (ad : Nat → Nat → Nat) (L : List (Nat × Nat)) (φ : Nat → Nat → Nat → Bool) (N0 : Nat) (σ : St) (x2 : Int) (Q : Int → St → Prop) (hw : wp_X8_takeObject σ x2 Q) : Met l yX8_takeObject (.code yX8_takeObject cX8_takeObject 3 (some .int) :: gw) ({ frames := 1, cells := 0, slots := 0, locals := 22 } : Room) (Pm D ct ad L φ N0 σ [.ref (ad 8 0), .ref (ad 9 0), .int (iv x2)]) (Qi D ct ad L φ N0 Q) 0 0 (AA N0) := by
  refine m_of (by decide) (fun p e s m below meth c X hnm h => ?_)
  have hF := X.2.2.2.2.2.2.2.2.1
  have hl := lv_entry ([.ref (ad 8 0), .ref (ad 9 0), .int (iv x2)]) (n := 3) (Nat.le_of_ble_eq_true rfl)
  rw [lg_entry_eq]
  generalize (lg_sl ([.ref (ad 8 0), .ref (ad 9 0), .int (iv x2)]) ++ List.replicate (3 - (lg_sl ([.ref (ad 8 0), .ref (ad 9 0), .int (iv x2)])).length) Slot.unset).toArray = ls at hl ⊢
  have hl : lv_has ls 3 [(0, .ref (ad 8 0)), (1, .ref (ad 9 0)), (2, .int (iv x2))] := hl
  have h : Hs D ct ad L φ N0 s.heap σ s.heap [] := h
  unfold wp_X8_takeObject at hw
  refine lv_iload_n X.1 X.2.1 dX8_takeObject_0 rfl (lv_at hl 2 rfl) ?_
  refine j_iconst X dX8_takeObject_1 ?_
  obtain ⟨g_1, hwt, hwf⟩ := hw
  refine j_cmp_ne (tgt := 12) X g_1 ⟨by decide, by decide⟩ dX8_takeObject_2 (by decide) (fun c_9 => ?_) (fun c_9 => ?_)
  · have hw := hwt c_9
    refine lv_aload_n X.1 X.2.1 dX8_takeObject_12 rfl (lv_at hl 0 rfl) ?_
    refine r_getR (ci := 8) X inw_8 h (hF.1 8 rfl).1 rfl rfl 3 (by decide) kw_284 rfl ((hF.1 8 rfl).2 3) dX8_takeObject_13 ?_
    refine lv_aload_n X.1 X.2.1 dX8_takeObject_16 rfl (lv_at hl 0 rfl) ?_
    refine k_i h (r_V (C := RX8) (ci := 8) (As := []) (rest := [.ref (ad 69 0)]) X h (c_X8_statementAtHand l D ct ad L φ N0 σ _ hw) rfl rfl ⟨Nat.le_of_ble_eq_true rfl, Nat.le_of_ble_eq_true rfl⟩ kw_1112 kw_1114 kw_30 kw_125 kw_1115 ⟨rfl, pd_X8_statementAtHand⟩ (hF.1 8 rfl).1 rfl rfl rfl hl.1 rfl (Nat.le_of_ble_eq_true rfl) ⟨Nat.le_of_ble_eq_true rfl, Nat.le_of_ble_eq_true rfl⟩ dX8_takeObject_17) (fun r_3 σ_2 H locs hw h => ?_)
    refine lv_iload_n X.1 X.2.1 dX8_takeObject_20 rfl (lv_at hl 2 rfl) ?_
    obtain ⟨g_4, g_5, hw⟩ := hw
    refine r_iast (n := 240) X h (hF.1 69 rfl).1 (fun _ => rfl) (by decide) g_4 g_5 rfl dX8_takeObject_21 (fun H locs h => ?_)
    obtain ⟨σ_6, eσ_6⟩ : ∃ z : St, z = st σ_2 69 0 (Int.toNat r_3) x2 := ⟨_, rfl⟩
    rw [← eσ_6] at h
    have hw := hw σ_6 eσ_6
    refine j_iconst X dX8_takeObject_22 ?_
    exact k_ir X rfl h hw dX8_takeObject_23
  · have hw := hwf c_9
    refine lv_aload_n X.1 X.2.1 dX8_takeObject_5 rfl (lv_at hl 0 rfl) ?_
    refine lv_aload_n X.1 X.2.1 dX8_takeObject_6 rfl (lv_at hl 1 rfl) ?_
    refine j_iconst X dX8_takeObject_7 ?_
    refine k_i h (r_V (C := RX8) (ci := 8) (As := [.ref (ad 9 0), .int (iv 1)]) (rest := []) X h (c_X8_refuse l D ct ad L φ N0 σ 1 _ hw) rfl rfl ⟨Nat.le_of_ble_eq_true rfl, Nat.le_of_ble_eq_true rfl⟩ kw_1108 kw_1110 kw_29 kw_125 kw_1111 ⟨rfl, pd_X8_refuse⟩ (hF.1 8 rfl).1 rfl rfl rfl hl.1 rfl (Nat.le_of_ble_eq_true rfl) ⟨Nat.le_of_ble_eq_true rfl, Nat.le_of_ble_eq_true rfl⟩ dX8_takeObject_8) (fun r_8 σ_7 H locs hw h => ?_)
    exact k_ir X rfl h hw dX8_takeObject_11
end
section
variable {p : Program} {l : Launch} {e : Env} {s : State} {m : MethodId} {args : Array Value} {below : List Frame} {meth : Method} {c : Code} {D : va_G} {ct : Nat → ClassId} {ad : Nat → Nat → Nat} {L : List (Nat × Nat)} {φ : Nat → Nat → Nat → Bool} {N0 : Nat}
variable {Q : Int → St → Prop}
set_option maxRecDepth 100000 in
set_option maxHeartbeats 4000000 in
theorem lb_X9_number_17 (X : Cx p s m meth c args cX9_number 3 (some .int) RX9 D ct L φ N0) : ∀ (n : Nat) (σ : St) (x1 : Int) (x2 : Int) (H : Heap) (locs : List Loc) (ls : Array Slot), wp_X9_number_17 Q n σ x1 x2 → Hs D ct ad L φ N0 s.heap σ H locs → lv_has ls 3 [(0, .ref (ad 9 0)), (1, .int (iv x1)), (2, .int (iv x2))] → W p l e ({ frames := 0, cells := 0, slots := 0, locals := 0 } : Room) s m args below meth c H locs 0 0 (MQ below (Qi D ct ad L φ N0 Q) args s 0 0 (AA N0)) (F0 m 17 ls []) := by
  have hF := X.2.2.2.2.2.2.2.2.1
  intro n
  induction n with
  | zero => intro σ x1 x2 H locs ls hw; exact hw.elim
  | succ n ih =>
    intro σ x1 x2 H locs ls hw h hl
    unfold wp_X9_number_17 at hw
    refine lv_iload_n X.1 X.2.1 dX9_number_17 rfl (lv_at hl 2 rfl) ?_
    refine lv_aload_n X.1 X.2.1 dX9_number_18 rfl (lv_at hl 0 rfl) ?_
    refine r_get (ci := 9) X inw_9 h (hF.1 9 rfl).1 rfl rfl 4 (by decide) kw_263 rfl dX9_number_19 ?_
    obtain ⟨g_1, g_2, hwt, hwf⟩ := hw
    refine j_cmp_ge (tgt := 46) X g_1 g_2 dX9_number_22 (by decide) (fun c_6 => ?_) (fun c_6 => ?_)
    · have hw := hwt c_6
      refine lv_iload_n X.1 X.2.1 dX9_number_46 rfl (lv_at hl 1 rfl) ?_
      exact k_ir X rfl h hw dX9_number_47
    · have hw := hwf c_6
      refine lv_iload_n X.1 X.2.1 dX9_number_25 rfl (lv_at hl 1 rfl) ?_
      refine j_bipush X dX9_number_26 (by decide) ?_
      refine j_imul X dX9_number_28 ?_
      refine lv_aload_n X.1 X.2.1 dX9_number_29 rfl (lv_at hl 0 rfl) ?_
      refine r_getR (ci := 9) X inw_9 h (hF.1 9 rfl).1 rfl rfl 0 (by decide) kw_256 rfl ((hF.1 9 rfl).2 0) dX9_number_30 ?_
      refine lv_iload_n X.1 X.2.1 dX9_number_33 rfl (lv_at hl 2 rfl) ?_
      obtain ⟨g_3, g_4, hw⟩ := hw
      refine r_iald (n := 300) X h (hF.1 76 rfl).1 rfl (by decide) g_3 g_4 dX9_number_34 ?_
      refine j_iadd X dX9_number_35 ?_
      refine j_bipush X dX9_number_36 (by decide) ?_
      refine j_isub X dX9_number_38 ?_
      refine j_bind (fun v_5 ev_5 => ?_)
      have hw := hw v_5 ev_5
      refine lv_istore_n (lv' := [(1, .int (iv v_5)), (0, .ref (ad 9 0)), (2, .int (iv x2))]) X.1 X.2.1 dX9_number_39 rfl hl (by decide) rfl (fun ls hl => ?_)
      refine j_iinc (kk9 := 2) (lv' := [(2, .int (iv (x2 + 1))), (1, .int (iv v_5)), (0, .ref (ad 9 0))]) X dX9_number_40 hl rfl (by decide) rfl (fun ls hl => ?_)
      refine lv_goto (tgt := 17) X.1 X.2.1 dX9_number_43 (by decide) ?_
      exact ih σ v_5 (x2 + 1) _ _ _ hw h (lv_sub hl [2, 1, 0] rfl)
theorem pd_X9_number : yX9_number.cls ≠ "java/lang/invoke/MethodHandle" ∧ yX9_number.cls ≠ "java/lang/invoke/VarHandle" ∧ (parseMethodDescriptor yX9_number.desc).map (fun d => d.parameters.length) = some 0 := by decide +kernel
set_option maxRecDepth 100000 in
set_option maxHeartbeats 4000000 in
theorem c_X9_number (l : Launch) (D : va_G) (ct : Nat → ClassId) (ad : Nat → Nat → Nat) (L : List (Nat × Nat)) (φ : Nat → Nat → Nat → Bool) (N0 : Nat) (σ : St) (Q : Int → St → Prop) (hw : wp_X9_number σ Q) : Met l yX9_number (.code yX9_number cX9_number 3 (some .int) :: gw) ({ frames := 0, cells := 0, slots := 0, locals := 0 } : Room) (Pm D ct ad L φ N0 σ [.ref (ad 9 0)]) (Qi D ct ad L φ N0 Q) 0 0 (AA N0) := by
  refine m_of (by decide) (fun p e s m below meth c X hnm h => ?_)
  have hF := X.2.2.2.2.2.2.2.2.1
  have hl := lv_entry ([.ref (ad 9 0)]) (n := 3) (Nat.le_of_ble_eq_true rfl)
  rw [lg_entry_eq]
  generalize (lg_sl ([.ref (ad 9 0)]) ++ List.replicate (3 - (lg_sl ([.ref (ad 9 0)])).length) Slot.unset).toArray = ls at hl ⊢
  have hl : lv_has ls 3 [(0, .ref (ad 9 0))] := hl
  have h : Hs D ct ad L φ N0 s.heap σ s.heap [] := h
  unfold wp_X9_number at hw
  refine lv_aload_n X.1 X.2.1 dX9_number_0 rfl (lv_at hl 0 rfl) ?_
  refine r_get (ci := 9) X inw_9 h (hF.1 9 rfl).1 rfl rfl 2 (by decide) kw_260 rfl dX9_number_1 ?_
  refine j_iconst X dX9_number_4 ?_
  obtain ⟨g_7, hwt, hwf⟩ := hw
  refine j_cmp_eq (tgt := 10) X g_7 ⟨by decide, by decide⟩ dX9_number_5 (by decide) (fun c_9 => ?_) (fun c_9 => ?_)
  · have hw := hwt c_9
    refine j_iconst X dX9_number_10 ?_
    refine lv_istore_n (lv' := [(1, .int (iv 0)), (0, .ref (ad 9 0))]) X.1 X.2.1 dX9_number_11 rfl hl (by decide) rfl (fun ls hl => ?_)
    refine lv_aload_n X.1 X.2.1 dX9_number_12 rfl (lv_at hl 1 rfl) ?_
    refine r_get (ci := 9) X inw_9 h (hF.1 9 rfl).1 rfl rfl 3 (by decide) kw_261 rfl dX9_number_13 ?_
    refine j_bind (fun v_8 ev_8 => ?_)
    have hw := hw v_8 ev_8
    refine lv_istore_n (lv' := [(2, .int (iv v_8)), (1, .int (iv 0)), (0, .ref (ad 9 0))]) X.1 X.2.1 dX9_number_16 rfl hl (by decide) rfl (fun ls hl => ?_)
    exact hw.elim (fun n17 hw => lb_X9_number_17 X n17 σ 0 v_8 _ _ _ hw h (lv_sub hl [2, 1, 0] rfl))
  · have hw := hwf c_9
    refine j_iconst X dX9_number_8 ?_
    exact k_ir X rfl h hw dX9_number_9
end
section
variable {p : Program} {l : Launch} {e : Env} {s : State} {m : MethodId} {args : Array Value} {below : List Frame} {meth : Method} {c : Code} {D : va_G} {ct : Nat → ClassId} {ad : Nat → Nat → Nat} {L : List (Nat × Nat)} {φ : Nat → Nat → Nat → Bool} {N0 : Nat}
variable {Q : Int → St → Prop}
theorem pd_X9_isWord : yX9_isWord.cls ≠ "java/lang/invoke/MethodHandle" ∧ yX9_isWord.cls ≠ "java/lang/invoke/VarHandle" ∧ (parseMethodDescriptor yX9_isWord.desc).map (fun d => d.parameters.length) = some 1 := by decide +kernel
set_option maxRecDepth 100000 in
set_option maxHeartbeats 4000000 in
theorem c_X9_isWord (l : Launch) (D : va_G) (ct : Nat → ClassId) (ad : Nat → Nat → Nat) (L : List (Nat × Nat)) (φ : Nat → Nat → Nat → Bool) (N0 : Nat) (σ : St) (j1 : Nat) (Q : Int → St → Prop) (hw : wp_X9_isWord σ j1 Q) : Met l yX9_isWord (.code yX9_isWord cX9_isWord 2 (some .boolean) :: gw) ({ frames := 5, cells := 0, slots := 0, locals := 109 } : Room) (Pm D ct ad L φ N0 σ [.ref (ad 9 0), .ref (ct (2000 + j1))]) (Qi D ct ad L φ N0 Q) 0 0 (AA N0) := by
  refine m_of (by decide) (fun p e s m below meth c X hnm h => ?_)
  have hF := X.2.2.2.2.2.2.2.2.1
  have hl := lv_entry ([.ref (ad 9 0), .ref (ct (2000 + j1))]) (n := 2) (Nat.le_of_ble_eq_true rfl)
  rw [lg_entry_eq]
  generalize (lg_sl ([.ref (ad 9 0), .ref (ct (2000 + j1))]) ++ List.replicate (2 - (lg_sl ([.ref (ad 9 0), .ref (ct (2000 + j1))])).length) Slot.unset).toArray = ls at hl ⊢
  have hl : lv_has ls 2 [(0, .ref (ad 9 0)), (1, .ref (ct (2000 + j1)))] := hl
  have h : Hs D ct ad L φ N0 s.heap σ s.heap [] := h
  unfold wp_X9_isWord at hw
  refine lv_aload_n X.1 X.2.1 dX9_isWord_0 rfl (lv_at hl 0 rfl) ?_
  refine r_get (ci := 9) X inw_9 h (hF.1 9 rfl).1 rfl rfl 2 (by decide) kw_260 rfl dX9_isWord_1 ?_
  refine j_iconst X dX9_isWord_4 ?_
  obtain ⟨g_1, hwt, hwf⟩ := hw
  refine j_cmp_ne (tgt := 25) X g_1 ⟨by decide, by decide⟩ dX9_isWord_5 (by decide) (fun c_9 => ?_) (fun c_9 => ?_)
  · have hw := hwt c_9
    refine j_iconst X dX9_isWord_25 ?_
    exact k_ir X rfl h hw dX9_isWord_26
  · have hw := hwf c_9
    refine lv_aload_n X.1 X.2.1 dX9_isWord_8 rfl (lv_at hl 0 rfl) ?_
    refine lv_aload_n X.1 X.2.1 dX9_isWord_9 rfl (lv_at hl 1 rfl) ?_
    refine j_iconst X dX9_isWord_10 ?_
    refine lv_aload_n X.1 X.2.1 dX9_isWord_11 rfl (lv_at hl 1 rfl) ?_
    obtain ⟨g_2, hw⟩ := hw
    refine k_i h (r_VS (i := j1) (As := []) (rest := [.int (iv 0), .ref (ct (2000 + j1)), .ref (ad 9 0)]) X h (c_J0_length_8abf5 l D ct ad L φ N0 σ j1 _ hw) rfl rfl ⟨Nat.le_of_ble_eq_true rfl, Nat.le_of_ble_eq_true rfl⟩ kw_1083 kw_999 kw_1000 kw_133 kw_1001 ⟨rfl, pd_J0_length_8abf5⟩ g_2 rfl hl.1 rfl (Nat.le_of_ble_eq_true rfl) ⟨Nat.le_of_ble_eq_true rfl, Nat.le_of_ble_eq_true rfl⟩ dX9_isWord_12) (fun r_4 σ_3 H locs hw h => ?_)
    refine k_i h (r_V (C := RX9) (ci := 9) (As := [.ref (ct (2000 + j1)), .int (iv 0), .int (iv r_4)]) (rest := []) X h (c_X9_isPart l D ct ad L φ N0 σ_3 j1 0 r_4 _ hw) rfl rfl ⟨Nat.le_of_ble_eq_true rfl, Nat.le_of_ble_eq_true rfl⟩ kw_1104 kw_1106 kw_28 kw_124 kw_1107 ⟨rfl, pd_X9_isPart⟩ (hF.1 9 rfl).1 rfl rfl rfl hl.1 rfl (Nat.le_of_ble_eq_true rfl) ⟨Nat.le_of_ble_eq_true rfl, Nat.le_of_ble_eq_true rfl⟩ dX9_isWord_15) (fun r_6 σ_5 H locs hw h => ?_)
    obtain ⟨g_7, hwt, hwf⟩ := hw
    refine j_if_eq (tgt := 25) X g_7 dX9_isWord_18 (by decide) (fun c_8 => ?_) (fun c_8 => ?_)
    · have hw := hwt c_8
      refine j_iconst X dX9_isWord_25 ?_
      exact k_ir X rfl h hw dX9_isWord_26
    · have hw := hwf c_8
      refine j_iconst X dX9_isWord_21 ?_
      refine lv_goto (tgt := 26) X.1 X.2.1 dX9_isWord_22 (by decide) ?_
      exact k_ir X rfl h hw dX9_isWord_26
end
section
variable {p : Program} {l : Launch} {e : Env} {s : State} {m : MethodId} {args : Array Value} {below : List Frame} {meth : Method} {c : Code} {D : va_G} {ct : Nat → ClassId} {ad : Nat → Nat → Nat} {L : List (Nat × Nat)} {φ : Nat → Nat → Nat → Bool} {N0 : Nat}
variable {Q : Int → St → Prop}
theorem pd_X8_termAtHand : yX8_termAtHand.cls ≠ "java/lang/invoke/MethodHandle" ∧ yX8_termAtHand.cls ≠ "java/lang/invoke/VarHandle" ∧ (parseMethodDescriptor yX8_termAtHand.desc).map (fun d => d.parameters.length) = some 0 := by decide +kernel
set_option maxRecDepth 100000 in
set_option maxHeartbeats 4000000 in
theorem c_X8_termAtHand (l : Launch) (D : va_G) (ct : Nat → ClassId) (ad : Nat → Nat → Nat) (L : List (Nat × Nat)) (φ : Nat → Nat → Nat → Bool) (N0 : Nat) (σ : St) (Q : Int → St → Prop) (hw : wp_X8_termAtHand σ Q) : Met l yX8_termAtHand (.code yX8_termAtHand cX8_termAtHand 1 (some .int) :: gw) ({ frames := 1, cells := 0, slots := 0, locals := 20 } : Room) (Pm D ct ad L φ N0 σ [.ref (ad 8 0)]) (Qi D ct ad L φ N0 Q) 0 0 (AA N0) := by
  refine m_of (by decide) (fun p e s m below meth c X hnm h => ?_)
  have hF := X.2.2.2.2.2.2.2.2.1
  have hl := lv_entry ([.ref (ad 8 0)]) (n := 1) (Nat.le_of_ble_eq_true rfl)
  rw [lg_entry_eq]
  generalize (lg_sl ([.ref (ad 8 0)]) ++ List.replicate (1 - (lg_sl ([.ref (ad 8 0)])).length) Slot.unset).toArray = ls at hl ⊢
  have hl : lv_has ls 1 [(0, .ref (ad 8 0))] := hl
  have h : Hs D ct ad L φ N0 s.heap σ s.heap [] := h
  unfold wp_X8_termAtHand at hw
  refine lv_aload_n X.1 X.2.1 dX8_termAtHand_0 rfl (lv_at hl 0 rfl) ?_
  refine k_i h (r_V (C := RX8) (ci := 8) (As := []) (rest := []) X h (c_X8_statementAtHand l D ct ad L φ N0 σ _ hw) rfl rfl ⟨Nat.le_of_ble_eq_true rfl, Nat.le_of_ble_eq_true rfl⟩ kw_1112 kw_1114 kw_30 kw_125 kw_1115 ⟨rfl, pd_X8_statementAtHand⟩ (hF.1 8 rfl).1 rfl rfl rfl hl.1 rfl (Nat.le_of_ble_eq_true rfl) ⟨Nat.le_of_ble_eq_true rfl, Nat.le_of_ble_eq_true rfl⟩ dX8_termAtHand_1) (fun r_2 σ_1 H locs hw h => ?_)
  refine j_iconst X dX8_termAtHand_4 ?_
  refine j_imul X dX8_termAtHand_5 ?_
  refine lv_aload_n X.1 X.2.1 dX8_termAtHand_6 rfl (lv_at hl 0 rfl) ?_
  refine r_getR (ci := 8) X inw_8 h (hF.1 8 rfl).1 rfl rfl 4 (by decide) kw_285 rfl ((hF.1 8 rfl).2 4) dX8_termAtHand_7 ?_
  refine lv_aload_n X.1 X.2.1 dX8_termAtHand_10 rfl (lv_at hl 0 rfl) ?_
  refine k_i h (r_V (C := RX8) (ci := 8) (As := []) (rest := [.ref (ad 70 0), .int (iv (r_2 * 5))]) X h (c_X8_statementAtHand l D ct ad L φ N0 σ_1 _ hw) rfl rfl ⟨Nat.le_of_ble_eq_true rfl, Nat.le_of_ble_eq_true rfl⟩ kw_1112 kw_1114 kw_30 kw_125 kw_1115 ⟨rfl, pd_X8_statementAtHand⟩ (hF.1 8 rfl).1 rfl rfl rfl hl.1 rfl (Nat.le_of_ble_eq_true rfl) ⟨Nat.le_of_ble_eq_true rfl, Nat.le_of_ble_eq_true rfl⟩ dX8_termAtHand_11) (fun r_4 σ_3 H locs hw h => ?_)
  obtain ⟨g_5, g_6, hw⟩ := hw
  refine r_iald (n := 240) X h (hF.1 70 rfl).1 rfl (by decide) g_5 g_6 dX8_termAtHand_14 ?_
  refine j_iadd X dX8_termAtHand_15 ?_
  refine j_iconst X dX8_termAtHand_16 ?_
  refine j_isub X dX8_termAtHand_17 ?_
  exact k_ir X rfl h hw dX8_termAtHand_18
end
section
variable {p : Program} {l : Launch} {e : Env} {s : State} {m : MethodId} {args : Array Value} {below : List Frame} {meth : Method} {c : Code} {D : va_G} {ct : Nat → ClassId} {ad : Nat → Nat → Nat} {L : List (Nat × Nat)} {φ : Nat → Nat → Nat → Bool} {N0 : Nat}
variable {Q : Int → St → Prop}
theorem pd_X8_takeWord : yX8_takeWord.cls ≠ "java/lang/invoke/MethodHandle" ∧ yX8_takeWord.cls ≠ "java/lang/invoke/VarHandle" ∧ (parseMethodDescriptor yX8_takeWord.desc).map (fun d => d.parameters.length) = some 2 := by decide +kernel
set_option maxRecDepth 100000 in
set_option maxHeartbeats 4000000 in
theorem c_X8_takeWord (l : Launch) (D : va_G) (ct : Nat → ClassId) (ad : Nat → Nat → Nat) (L : List (Nat × Nat)) (φ : Nat → Nat → Nat → Bool) (N0 : Nat) (σ : St) (x2 : Int) (Q : Int → St → Prop) (hw : wp_X8_takeWord σ x2 Q) : Met l yX8_takeWord (.code yX8_takeWord cX8_takeWord 3 (some .int) :: gw) ({ frames := 2, cells := 0, slots := 0, locals := 40 } : Room) (Pm D ct ad L φ N0 σ [.ref (ad 8 0), .ref (ad 9 0), .int (iv x2)]) (Qi D ct ad L φ N0 Q) 0 0 (AA N0) := by
  refine m_of (by decide) (fun p e s m below meth c X hnm h => ?_)
  have hF := X.2.2.2.2.2.2.2.2.1
  have hl := lv_entry ([.ref (ad 8 0), .ref (ad 9 0), .int (iv x2)]) (n := 3) (Nat.le_of_ble_eq_true rfl)
  rw [lg_entry_eq]
  generalize (lg_sl ([.ref (ad 8 0), .ref (ad 9 0), .int (iv x2)]) ++ List.replicate (3 - (lg_sl ([.ref (ad 8 0), .ref (ad 9 0), .int (iv x2)])).length) Slot.unset).toArray = ls at hl ⊢
  have hl : lv_has ls 3 [(0, .ref (ad 8 0)), (1, .ref (ad 9 0)), (2, .int (iv x2))] := hl
  have h : Hs D ct ad L φ N0 s.heap σ s.heap [] := h
  unfold wp_X8_takeWord at hw
  refine lv_iload_n X.1 X.2.1 dX8_takeWord_0 rfl (lv_at hl 2 rfl) ?_
  refine j_iconst X dX8_takeWord_1 ?_
  obtain ⟨g_1, hwt, hwf⟩ := hw
  refine j_cmp_ne (tgt := 12) X g_1 ⟨by decide, by decide⟩ dX8_takeWord_2 (by decide) (fun c_9 => ?_) (fun c_9 => ?_)
  · have hw := hwt c_9
    refine lv_aload_n X.1 X.2.1 dX8_takeWord_12 rfl (lv_at hl 0 rfl) ?_
    refine r_getR (ci := 8) X inw_8 h (hF.1 8 rfl).1 rfl rfl 6 (by decide) kw_287 rfl ((hF.1 8 rfl).2 6) dX8_takeWord_13 ?_
    refine lv_aload_n X.1 X.2.1 dX8_takeWord_16 rfl (lv_at hl 0 rfl) ?_
    refine k_i h (r_V (C := RX8) (ci := 8) (As := []) (rest := [.ref (ad 72 0)]) X h (c_X8_termAtHand l D ct ad L φ N0 σ _ hw) rfl rfl ⟨Nat.le_of_ble_eq_true rfl, Nat.le_of_ble_eq_true rfl⟩ kw_1136 kw_1138 kw_33 kw_125 kw_1139 ⟨rfl, pd_X8_termAtHand⟩ (hF.1 8 rfl).1 rfl rfl rfl hl.1 rfl (Nat.le_of_ble_eq_true rfl) ⟨Nat.le_of_ble_eq_true rfl, Nat.le_of_ble_eq_true rfl⟩ dX8_takeWord_17) (fun r_3 σ_2 H locs hw h => ?_)
    refine lv_iload_n X.1 X.2.1 dX8_takeWord_20 rfl (lv_at hl 2 rfl) ?_
    obtain ⟨g_4, g_5, hw⟩ := hw
    refine r_iast (n := 1200) X h (hF.1 72 rfl).1 (fun _ => rfl) (by decide) g_4 g_5 rfl dX8_takeWord_21 (fun H locs h => ?_)
    obtain ⟨σ_6, eσ_6⟩ : ∃ z : St, z = st σ_2 72 0 (Int.toNat r_3) x2 := ⟨_, rfl⟩
    rw [← eσ_6] at h
    have hw := hw σ_6 eσ_6
    refine j_bipush X dX8_takeWord_22 (by decide) ?_
    exact k_ir X rfl h hw dX8_takeWord_24
  · have hw := hwf c_9
    refine lv_aload_n X.1 X.2.1 dX8_takeWord_5 rfl (lv_at hl 0 rfl) ?_
    refine lv_aload_n X.1 X.2.1 dX8_takeWord_6 rfl (lv_at hl 1 rfl) ?_
    refine j_iconst X dX8_takeWord_7 ?_
    refine k_i h (r_V (C := RX8) (ci := 8) (As := [.ref (ad 9 0), .int (iv 1)]) (rest := []) X h (c_X8_refuse l D ct ad L φ N0 σ 1 _ hw) rfl rfl ⟨Nat.le_of_ble_eq_true rfl, Nat.le_of_ble_eq_true rfl⟩ kw_1108 kw_1110 kw_29 kw_125 kw_1111 ⟨rfl, pd_X8_refuse⟩ (hF.1 8 rfl).1 rfl rfl rfl hl.1 rfl (Nat.le_of_ble_eq_true rfl) ⟨Nat.le_of_ble_eq_true rfl, Nat.le_of_ble_eq_true rfl⟩ dX8_takeWord_8) (fun r_8 σ_7 H locs hw h => ?_)
    exact k_ir X rfl h hw dX8_takeWord_11
end
section
variable {p : Program} {l : Launch} {e : Env} {s : State} {m : MethodId} {args : Array Value} {below : List Frame} {meth : Method} {c : Code} {D : va_G} {ct : Nat → ClassId} {ad : Nat → Nat → Nat} {L : List (Nat × Nat)} {φ : Nat → Nat → Nat → Bool} {N0 : Nat}
variable {Q : Int → St → Prop}
set_option maxRecDepth 100000 in
set_option maxHeartbeats 4000000 in
theorem lb_X8_takeTerm_30 (X : Cx p s m meth c args cX8_takeTerm 4 (some .int) RX8 D ct L φ N0) (σ : St) (x2 : Int) (x3 : Int) (H : Heap) (locs : List Loc) (ls : Array Slot) (hw : wp_X8_takeTerm_30 Q σ x2 x3) (h : Hs D ct ad L φ N0 s.heap σ H locs) (hl : lv_has ls 4 [(0, .ref (ad 8 0)), (1, .ref (ad 9 0)), (2, .int (iv x2)), (3, .int (iv x3))]) : W p l e ({ frames := 6, cells := 0, slots := 0, locals := 133 } : Room) s m args below meth c H locs 0 0 (MQ below (Qi D ct ad L φ N0 Q) args s 0 0 (AA N0)) (F0 m 30 ls []) := by
  have hF := X.2.2.2.2.2.2.2.2.1
  unfold wp_X8_takeTerm_30 at hw
  refine lv_aload_n X.1 X.2.1 dX8_takeTerm_30 rfl (lv_at hl 0 rfl) ?_
  refine r_getR (ci := 8) X inw_8 h (hF.1 8 rfl).1 rfl rfl 4 (by decide) kw_285 rfl ((hF.1 8 rfl).2 4) dX8_takeTerm_31 ?_
  refine lv_aload_n X.1 X.2.1 dX8_takeTerm_34 rfl (lv_at hl 0 rfl) ?_
  refine k_i h (r_V (C := RX8) (ci := 8) (As := []) (rest := [.ref (ad 70 0)]) X h (c_X8_statementAtHand l D ct ad L φ N0 σ _ hw) rfl rfl ⟨Nat.le_of_ble_eq_true rfl, Nat.le_of_ble_eq_true rfl⟩ kw_1112 kw_1114 kw_30 kw_125 kw_1115 ⟨rfl, pd_X8_statementAtHand⟩ (hF.1 8 rfl).1 rfl rfl rfl hl.1 rfl (Nat.le_of_ble_eq_true rfl) ⟨Nat.le_of_ble_eq_true rfl, Nat.le_of_ble_eq_true rfl⟩ dX8_takeTerm_35) (fun r_2 σ_1 H locs hw h => ?_)
  obtain ⟨g_3, g_4, hw⟩ := hw
  refine r_iald (n := 240) X h (hF.1 70 rfl).1 rfl (by decide) g_3 g_4 dX8_takeTerm_38 ?_
  refine j_iconst X dX8_takeTerm_39 ?_
  obtain ⟨g_5, hwt, hwf⟩ := hw
  refine j_cmp_lt (tgt := 50) X g_5 ⟨by decide, by decide⟩ dX8_takeTerm_40 (by decide) (fun c_25 => ?_) (fun c_25 => ?_)
  · have hw := hwt c_25
    refine lv_aload_n X.1 X.2.1 dX8_takeTerm_50 rfl (lv_at hl 0 rfl) ?_
    refine r_getR (ci := 8) X inw_8 h (hF.1 8 rfl).1 rfl rfl 4 (by decide) kw_285 rfl ((hF.1 8 rfl).2 4) dX8_takeTerm_51 ?_
    refine lv_aload_n X.1 X.2.1 dX8_takeTerm_54 rfl (lv_at hl 0 rfl) ?_
    refine k_i h (r_V (C := RX8) (ci := 8) (As := []) (rest := [.ref (ad 70 0)]) X h (c_X8_statementAtHand l D ct ad L φ N0 σ_1 _ hw) rfl rfl ⟨Nat.le_of_ble_eq_true rfl, Nat.le_of_ble_eq_true rfl⟩ kw_1112 kw_1114 kw_30 kw_125 kw_1115 ⟨rfl, pd_X8_statementAtHand⟩ (hF.1 8 rfl).1 rfl rfl rfl hl.1 rfl (Nat.le_of_ble_eq_true rfl) ⟨Nat.le_of_ble_eq_true rfl, Nat.le_of_ble_eq_true rfl⟩ dX8_takeTerm_55) (fun r_7 σ_6 H locs hw h => ?_)
    refine lv_dup2_11 X.1 X.2.1 dX8_takeTerm_58 rfl rfl ?_
    obtain ⟨g_8, g_9, hw⟩ := hw
    refine r_iald (n := 240) X h (hF.1 70 rfl).1 rfl (by decide) g_8 g_9 dX8_takeTerm_59 ?_
    refine j_iconst X dX8_takeTerm_60 ?_
    refine j_iadd X dX8_takeTerm_61 ?_
    obtain ⟨g_10, g_11, hw⟩ := hw
    refine r_iast (n := 240) X h (hF.1 70 rfl).1 (fun _ => rfl) (by decide) g_10 g_11 rfl dX8_takeTerm_62 (fun H locs h => ?_)
    obtain ⟨σ_12, eσ_12⟩ : ∃ z : St, z = st σ_6 70 0 (Int.toNat r_7) ((σ_6 70 0 (Int.toNat r_7)) + 1) := ⟨_, rfl⟩
    rw [← eσ_12] at h
    have hw := hw σ_12 eσ_12
    refine lv_aload_n X.1 X.2.1 dX8_takeTerm_63 rfl (lv_at hl 0 rfl) ?_
    refine r_getR (ci := 8) X inw_8 h (hF.1 8 rfl).1 rfl rfl 5 (by decide) kw_286 rfl ((hF.1 8 rfl).2 5) dX8_takeTerm_64 ?_
    refine lv_aload_n X.1 X.2.1 dX8_takeTerm_67 rfl (lv_at hl 0 rfl) ?_
    refine k_i h (r_V (C := RX8) (ci := 8) (As := []) (rest := [.ref (ad 71 0)]) X h (c_X8_termAtHand l D ct ad L φ N0 σ_12 _ hw) rfl rfl ⟨Nat.le_of_ble_eq_true rfl, Nat.le_of_ble_eq_true rfl⟩ kw_1136 kw_1138 kw_33 kw_125 kw_1139 ⟨rfl, pd_X8_termAtHand⟩ (hF.1 8 rfl).1 rfl rfl rfl hl.1 rfl (Nat.le_of_ble_eq_true rfl) ⟨Nat.le_of_ble_eq_true rfl, Nat.le_of_ble_eq_true rfl⟩ dX8_takeTerm_68) (fun r_14 σ_13 H locs hw h => ?_)
    refine lv_iload_n X.1 X.2.1 dX8_takeTerm_71 rfl (lv_at hl 2 rfl) ?_
    obtain ⟨g_15, g_16, g_17, hw⟩ := hw
    refine r_zast (n := 1200) X h (hF.1 71 rfl).1 (fun _ => rfl) (by decide) g_15 g_16 rfl (nb_v g_17) dX8_takeTerm_72 (fun H locs h => ?_)
    obtain ⟨σ_18, eσ_18⟩ : ∃ z : St, z = st σ_13 71 0 (Int.toNat r_14) x2 := ⟨_, rfl⟩
    rw [← eσ_18] at h
    have hw := hw σ_18 eσ_18
    refine lv_iload_n X.1 X.2.1 dX8_takeTerm_73 rfl (lv_at hl 2 rfl) ?_
    obtain ⟨g_19, hwt, hwf⟩ := hw
    refine j_if_eq (tgt := 82) X g_19 dX8_takeTerm_74 (by decide) (fun c_22 => ?_) (fun c_22 => ?_)
    · have hw := hwt c_22
      refine lv_aload_n X.1 X.2.1 dX8_takeTerm_82 rfl (lv_at hl 0 rfl) ?_
      refine lv_aload_n X.1 X.2.1 dX8_takeTerm_83 rfl (lv_at hl 1 rfl) ?_
      refine lv_iload_n X.1 X.2.1 dX8_takeTerm_84 rfl (lv_at hl 3 rfl) ?_
      refine k_i h (r_V (C := RX8) (ci := 8) (As := [.ref (ad 9 0), .int (iv x3)]) (rest := []) X h (c_X8_takeWord l D ct ad L φ N0 σ_18 x3 _ hw) rfl rfl ⟨Nat.le_of_ble_eq_true rfl, Nat.le_of_ble_eq_true rfl⟩ kw_1140 kw_1142 kw_34 kw_125 kw_1143 ⟨rfl, pd_X8_takeWord⟩ (hF.1 8 rfl).1 rfl rfl rfl hl.1 rfl (Nat.le_of_ble_eq_true rfl) ⟨Nat.le_of_ble_eq_true rfl, Nat.le_of_ble_eq_true rfl⟩ dX8_takeTerm_85) (fun r_21 σ_20 H locs hw h => ?_)
      exact k_ir X rfl h hw dX8_takeTerm_88
    · have hw := hwf c_22
      refine j_bipush X dX8_takeTerm_77 (by decide) ?_
      refine lv_goto (tgt := 88) X.1 X.2.1 dX8_takeTerm_79 (by decide) ?_
      exact k_ir X rfl h hw dX8_takeTerm_88
  · have hw := hwf c_25
    refine lv_aload_n X.1 X.2.1 dX8_takeTerm_43 rfl (lv_at hl 0 rfl) ?_
    refine lv_aload_n X.1 X.2.1 dX8_takeTerm_44 rfl (lv_at hl 1 rfl) ?_
    refine j_iconst X dX8_takeTerm_45 ?_
    refine k_i h (r_V (C := RX8) (ci := 8) (As := [.ref (ad 9 0), .int (iv 2)]) (rest := []) X h (c_X8_refuse l D ct ad L φ N0 σ_1 2 _ hw) rfl rfl ⟨Nat.le_of_ble_eq_true rfl, Nat.le_of_ble_eq_true rfl⟩ kw_1108 kw_1110 kw_29 kw_125 kw_1111 ⟨rfl, pd_X8_refuse⟩ (hF.1 8 rfl).1 rfl rfl rfl hl.1 rfl (Nat.le_of_ble_eq_true rfl) ⟨Nat.le_of_ble_eq_true rfl, Nat.le_of_ble_eq_true rfl⟩ dX8_takeTerm_46) (fun r_24 σ_23 H locs hw h => ?_)
    exact k_ir X rfl h hw dX8_takeTerm_49
theorem pd_X8_takeTerm : yX8_takeTerm.cls ≠ "java/lang/invoke/MethodHandle" ∧ yX8_takeTerm.cls ≠ "java/lang/invoke/VarHandle" ∧ (parseMethodDescriptor yX8_takeTerm.desc).map (fun d => d.parameters.length) = some 1 := by decide +kernel
set_option maxRecDepth 100000 in
set_option maxHeartbeats 4000000 in
theorem c_X8_takeTerm (l : Launch) (D : va_G) (ct : Nat → ClassId) (ad : Nat → Nat → Nat) (L : List (Nat × Nat)) (φ : Nat → Nat → Nat → Bool) (N0 : Nat) (σ : St) (Q : Int → St → Prop) (hw : wp_X8_takeTerm σ Q) : Met l yX8_takeTerm (.code yX8_takeTerm cX8_takeTerm 4 (some .int) :: gw) ({ frames := 6, cells := 0, slots := 0, locals := 133 } : Room) (Pm D ct ad L φ N0 σ [.ref (ad 8 0), .ref (ad 9 0)]) (Qi D ct ad L φ N0 Q) 0 0 (AA N0) := by
  refine m_of (by decide) (fun p e s m below meth c X hnm h => ?_)
  have hF := X.2.2.2.2.2.2.2.2.1
  have hl := lv_entry ([.ref (ad 8 0), .ref (ad 9 0)]) (n := 4) (Nat.le_of_ble_eq_true rfl)
  rw [lg_entry_eq]
  generalize (lg_sl ([.ref (ad 8 0), .ref (ad 9 0)]) ++ List.replicate (4 - (lg_sl ([.ref (ad 8 0), .ref (ad 9 0)])).length) Slot.unset).toArray = ls at hl ⊢
  have hl : lv_has ls 4 [(0, .ref (ad 8 0)), (1, .ref (ad 9 0))] := hl
  have h : Hs D ct ad L φ N0 s.heap σ s.heap [] := h
  unfold wp_X8_takeTerm at hw
  refine lv_aload_n X.1 X.2.1 dX8_takeTerm_0 rfl (lv_at hl 1 rfl) ?_
  refine r_ldcS X X.2.2.2.2.2.2.2.1.2.2.2.2.2.2.2.2.2.2.2.1 dX8_takeTerm_1 ?_
  refine k_i h (r_V (C := RX9) (ci := 9) (As := [.ref (ct (2000 + 4))]) (rest := []) X h (c_X9_isWord l D ct ad L φ N0 σ 4 _ hw) rfl rfl ⟨Nat.le_of_ble_eq_true rfl, Nat.le_of_ble_eq_true rfl⟩ kw_1126 kw_1127 kw_1128 kw_124 kw_1129 ⟨rfl, pd_X9_isWord⟩ (hF.1 9 rfl).1 rfl rfl rfl hl.1 rfl (Nat.le_of_ble_eq_true rfl) ⟨Nat.le_of_ble_eq_true rfl, Nat.le_of_ble_eq_true rfl⟩ dX8_takeTerm_3) (fun r_27 σ_26 H locs hw h => ?_)
  refine lv_istore_n (lv' := [(2, .int (iv r_27)), (0, .ref (ad 8 0)), (1, .ref (ad 9 0))]) X.1 X.2.1 dX8_takeTerm_6 rfl hl (by decide) rfl (fun ls hl => ?_)
  refine lv_aload_n X.1 X.2.1 dX8_takeTerm_7 rfl (lv_at hl 2 rfl) ?_
  refine r_ldcS X X.2.2.2.2.2.2.2.1.2.2.2.2.2.2.2.2.2.1 dX8_takeTerm_8 ?_
  refine k_i h (r_V (C := RX9) (ci := 9) (As := [.ref (ct (2000 + 5))]) (rest := []) X h (c_X9_wordIn l D ct ad L φ N0 σ_26 5 _ hw) rfl rfl ⟨Nat.le_of_ble_eq_true rfl, Nat.le_of_ble_eq_true rfl⟩ kw_1079 kw_1080 kw_1081 kw_124 kw_1082 ⟨rfl, pd_X9_wordIn⟩ (hF.1 9 rfl).1 rfl rfl rfl hl.1 rfl (Nat.le_of_ble_eq_true rfl) ⟨Nat.le_of_ble_eq_true rfl, Nat.le_of_ble_eq_true rfl⟩ dX8_takeTerm_10) (fun r_29 σ_28 H locs hw h => ?_)
  refine lv_istore_n (lv' := [(3, .int (iv r_29)), (2, .int (iv r_27)), (0, .ref (ad 8 0)), (1, .ref (ad 9 0))]) X.1 X.2.1 dX8_takeTerm_13 rfl hl (by decide) rfl (fun ls hl => ?_)
  refine lv_iload_n X.1 X.2.1 dX8_takeTerm_14 rfl (lv_at hl 1 rfl) ?_
  obtain ⟨g_30, hwt, hwf⟩ := hw
  refine j_if_ne (tgt := 30) X g_30 dX8_takeTerm_15 (by decide) (fun c_35 => ?_) (fun c_35 => ?_)
  · have hw := hwt c_35
    exact lb_X8_takeTerm_30 X σ_28 r_27 r_29 _ _ _ hw h (lv_sub hl [2, 3, 1, 0] rfl)
  · have hw := hwf c_35
    refine lv_iload_n X.1 X.2.1 dX8_takeTerm_18 rfl (lv_at hl 0 rfl) ?_
    refine j_iconst X dX8_takeTerm_19 ?_
    obtain ⟨g_31, hwt, hwf⟩ := hw
    refine j_cmp_ne (tgt := 30) X g_31 ⟨by decide, by decide⟩ dX8_takeTerm_20 (by decide) (fun c_34 => ?_) (fun c_34 => ?_)
    · have hw := hwt c_34
      exact lb_X8_takeTerm_30 X σ_28 r_27 r_29 _ _ _ hw h (lv_sub hl [2, 3, 1, 0] rfl)
    · have hw := hwf c_34
      refine lv_aload_n X.1 X.2.1 dX8_takeTerm_23 rfl (lv_at hl 2 rfl) ?_
      refine lv_aload_n X.1 X.2.1 dX8_takeTerm_24 rfl (lv_at hl 3 rfl) ?_
      refine j_iconst X dX8_takeTerm_25 ?_
      refine k_i h (r_V (C := RX8) (ci := 8) (As := [.ref (ad 9 0), .int (iv 1)]) (rest := []) X h (c_X8_refuse l D ct ad L φ N0 σ_28 1 _ hw) rfl rfl ⟨Nat.le_of_ble_eq_true rfl, Nat.le_of_ble_eq_true rfl⟩ kw_1108 kw_1110 kw_29 kw_125 kw_1111 ⟨rfl, pd_X8_refuse⟩ (hF.1 8 rfl).1 rfl rfl rfl hl.1 rfl (Nat.le_of_ble_eq_true rfl) ⟨Nat.le_of_ble_eq_true rfl, Nat.le_of_ble_eq_true rfl⟩ dX8_takeTerm_26) (fun r_33 σ_32 H locs hw h => ?_)
      exact k_ir X rfl h hw dX8_takeTerm_29
end
section
variable {p : Program} {l : Launch} {e : Env} {s : State} {m : MethodId} {args : Array Value} {below : List Frame} {meth : Method} {c : Code} {D : va_G} {ct : Nat → ClassId} {ad : Nat → Nat → Nat} {L : List (Nat × Nat)} {φ : Nat → Nat → Nat → Bool} {N0 : Nat}
variable {Q : Int → St → Prop}
theorem pd_X9_sign : yX9_sign.cls ≠ "java/lang/invoke/MethodHandle" ∧ yX9_sign.cls ≠ "java/lang/invoke/VarHandle" ∧ (parseMethodDescriptor yX9_sign.desc).map (fun d => d.parameters.length) = some 0 := by decide +kernel
set_option maxRecDepth 100000 in
set_option maxHeartbeats 4000000 in
theorem c_X9_sign (l : Launch) (D : va_G) (ct : Nat → ClassId) (ad : Nat → Nat → Nat) (L : List (Nat × Nat)) (φ : Nat → Nat → Nat → Bool) (N0 : Nat) (σ : St) (Q : Int → St → Prop) (hw : wp_X9_sign σ Q) : Met l yX9_sign (.code yX9_sign cX9_sign 1 (some .int) :: gw) ({ frames := 4, cells := 0, slots := 0, locals := 91 } : Room) (Pm D ct ad L φ N0 σ [.ref (ad 9 0)]) (Qi D ct ad L φ N0 Q) 0 0 (AA N0) := by
  refine m_of (by decide) (fun p e s m below meth c X hnm h => ?_)
  have hF := X.2.2.2.2.2.2.2.2.1
  have hl := lv_entry ([.ref (ad 9 0)]) (n := 1) (Nat.le_of_ble_eq_true rfl)
  rw [lg_entry_eq]
  generalize (lg_sl ([.ref (ad 9 0)]) ++ List.replicate (1 - (lg_sl ([.ref (ad 9 0)])).length) Slot.unset).toArray = ls at hl ⊢
  have hl : lv_has ls 1 [(0, .ref (ad 9 0))] := hl
  have h : Hs D ct ad L φ N0 s.heap σ s.heap [] := h
  unfold wp_X9_sign at hw
  refine lv_aload_n X.1 X.2.1 dX9_sign_0 rfl (lv_at hl 0 rfl) ?_
  refine r_get (ci := 9) X inw_9 h (hF.1 9 rfl).1 rfl rfl 2 (by decide) kw_260 rfl dX9_sign_1 ?_
  refine j_iconst X dX9_sign_4 ?_
  obtain ⟨g_1, hwt, hwf⟩ := hw
  refine j_cmp_ne (tgt := 26) X g_1 ⟨by decide, by decide⟩ dX9_sign_5 (by decide) (fun c_6 => ?_) (fun c_6 => ?_)
  · have hw := hwt c_6
    refine j_iconst X dX9_sign_26 ?_
    exact k_ir X rfl h hw dX9_sign_27
  · have hw := hwf c_6
    refine r_ldcS X X.2.2.2.2.2.2.2.1.2.2.2.2.2.2.2.2.2.2.2.2.2.1 dX9_sign_8 ?_
    refine lv_aload_n X.1 X.2.1 dX9_sign_10 rfl (lv_at hl 0 rfl) ?_
    refine r_getR (ci := 9) X inw_9 h (hF.1 9 rfl).1 rfl rfl 0 (by decide) kw_256 rfl ((hF.1 9 rfl).2 0) dX9_sign_11 ?_
    refine lv_aload_n X.1 X.2.1 dX9_sign_14 rfl (lv_at hl 0 rfl) ?_
    refine r_get (ci := 9) X inw_9 h (hF.1 9 rfl).1 rfl rfl 3 (by decide) kw_261 rfl dX9_sign_15 ?_
    obtain ⟨g_2, g_3, hw⟩ := hw
    refine r_iald (n := 300) X h (hF.1 76 rfl).1 rfl (by decide) g_2 g_3 dX9_sign_18 ?_
    refine j_i2c X dX9_sign_19 ?_
    refine k_i h (r_VS (i := 0) (As := [.int (iv (i_i2c (σ 76 0 (Int.toNat (σ 9 0 3)))))]) (rest := []) X h (c_J0_indexOf_0f7a4 l D ct ad L φ N0 σ 0 (i_i2c (σ 76 0 (Int.toNat (σ 9 0 3)))) _ hw) rfl rfl ⟨Nat.le_of_ble_eq_true rfl, Nat.le_of_ble_eq_true rfl⟩ kw_984 kw_985 kw_986 kw_133 kw_987 ⟨rfl, pd_J0_indexOf_0f7a4⟩ (by decide) rfl hl.1 rfl (Nat.le_of_ble_eq_true rfl) ⟨Nat.le_of_ble_eq_true rfl, Nat.le_of_ble_eq_true rfl⟩ dX9_sign_20) (fun r_5 σ_4 H locs hw h => ?_)
    refine lv_goto (tgt := 27) X.1 X.2.1 dX9_sign_23 (by decide) ?_
    exact k_ir X rfl h hw dX9_sign_27
end
section
variable {p : Program} {l : Launch} {e : Env} {s : State} {m : MethodId} {args : Array Value} {below : List Frame} {meth : Method} {c : Code} {D : va_G} {ct : Nat → ClassId} {ad : Nat → Nat → Nat} {L : List (Nat × Nat)} {φ : Nat → Nat → Nat → Bool} {N0 : Nat}
variable {Q : Int → St → Prop}
theorem pd_X8_takeRelation : yX8_takeRelation.cls ≠ "java/lang/invoke/MethodHandle" ∧ yX8_takeRelation.cls ≠ "java/lang/invoke/VarHandle" ∧ (parseMethodDescriptor yX8_takeRelation.desc).map (fun d => d.parameters.length) = some 1 := by decide +kernel
set_option maxRecDepth 100000 in
set_option maxHeartbeats 4000000 in
theorem c_X8_takeRelation (l : Launch) (D : va_G) (ct : Nat → ClassId) (ad : Nat → Nat → Nat) (L : List (Nat × Nat)) (φ : Nat → Nat → Nat → Bool) (N0 : Nat) (σ : St) (Q : Int → St → Prop) (hw : wp_X8_takeRelation σ Q) : Met l yX8_takeRelation (.code yX8_takeRelation cX8_takeRelation 3 (some .int) :: gw) ({ frames := 5, cells := 0, slots := 0, locals := 111 } : Room) (Pm D ct ad L φ N0 σ [.ref (ad 8 0), .ref (ad 9 0)]) (Qi D ct ad L φ N0 Q) 0 0 (AA N0) := by
  refine m_of (by decide) (fun p e s m below meth c X hnm h => ?_)
  have hF := X.2.2.2.2.2.2.2.2.1
  have hl := lv_entry ([.ref (ad 8 0), .ref (ad 9 0)]) (n := 3) (Nat.le_of_ble_eq_true rfl)
  rw [lg_entry_eq]
  generalize (lg_sl ([.ref (ad 8 0), .ref (ad 9 0)]) ++ List.replicate (3 - (lg_sl ([.ref (ad 8 0), .ref (ad 9 0)])).length) Slot.unset).toArray = ls at hl ⊢
  have hl : lv_has ls 3 [(0, .ref (ad 8 0)), (1, .ref (ad 9 0))] := hl
  have h : Hs D ct ad L φ N0 s.heap σ s.heap [] := h
  unfold wp_X8_takeRelation at hw
  refine lv_aload_n X.1 X.2.1 dX8_takeRelation_0 rfl (lv_at hl 1 rfl) ?_
  refine k_i h (r_V (C := RX9) (ci := 9) (As := []) (rest := []) X h (c_X9_sign l D ct ad L φ N0 σ _ hw) rfl rfl ⟨Nat.le_of_ble_eq_true rfl, Nat.le_of_ble_eq_true rfl⟩ kw_1148 kw_1149 kw_1150 kw_124 kw_1151 ⟨rfl, pd_X9_sign⟩ (hF.1 9 rfl).1 rfl rfl rfl hl.1 rfl (Nat.le_of_ble_eq_true rfl) ⟨Nat.le_of_ble_eq_true rfl, Nat.le_of_ble_eq_true rfl⟩ dX8_takeRelation_1) (fun r_2 σ_1 H locs hw h => ?_)
  refine lv_istore_n (lv' := [(2, .int (iv r_2)), (0, .ref (ad 8 0)), (1, .ref (ad 9 0))]) X.1 X.2.1 dX8_takeRelation_4 rfl hl (by decide) rfl (fun ls hl => ?_)
  refine lv_iload_n X.1 X.2.1 dX8_takeRelation_5 rfl (lv_at hl 0 rfl) ?_
  refine j_iconst X dX8_takeRelation_6 ?_
  refine j_iconst X dX8_takeRelation_7 ?_
  refine k_i h (r_SN (As := [.int (iv r_2), .int (iv 0), .int (iv 2)]) (rest := []) X h (c_X11_within l D ct ad L φ N0 σ_1 r_2 0 2 _ hw) rfl rfl ⟨Nat.le_of_ble_eq_true rfl, Nat.le_of_ble_eq_true rfl⟩ kw_693 kw_527 kw_120 kw_528 pd_X11_within rfl hl.1 rfl (Nat.le_of_ble_eq_true rfl) ⟨Nat.le_of_ble_eq_true rfl, Nat.le_of_ble_eq_true rfl⟩ dX8_takeRelation_8) (fun r_4 σ_3 H locs hw h => ?_)
  obtain ⟨g_5, hwt, hwf⟩ := hw
  refine j_if_ne (tgt := 21) X g_5 dX8_takeRelation_11 (by decide) (fun c_13 => ?_) (fun c_13 => ?_)
  · have hw := hwt c_13
    refine lv_aload_n X.1 X.2.1 dX8_takeRelation_21 rfl (lv_at hl 1 rfl) ?_
    refine r_getR (ci := 8) X inw_8 h (hF.1 8 rfl).1 rfl rfl 7 (by decide) kw_288 rfl ((hF.1 8 rfl).2 7) dX8_takeRelation_22 ?_
    refine lv_aload_n X.1 X.2.1 dX8_takeRelation_25 rfl (lv_at hl 1 rfl) ?_
    refine k_i h (r_V (C := RX8) (ci := 8) (As := []) (rest := [.ref (ad 73 0)]) X h (c_X8_termAtHand l D ct ad L φ N0 σ_3 _ hw) rfl rfl ⟨Nat.le_of_ble_eq_true rfl, Nat.le_of_ble_eq_true rfl⟩ kw_1136 kw_1138 kw_33 kw_125 kw_1139 ⟨rfl, pd_X8_termAtHand⟩ (hF.1 8 rfl).1 rfl rfl rfl hl.1 rfl (Nat.le_of_ble_eq_true rfl) ⟨Nat.le_of_ble_eq_true rfl, Nat.le_of_ble_eq_true rfl⟩ dX8_takeRelation_26) (fun r_7 σ_6 H locs hw h => ?_)
    refine lv_iload_n X.1 X.2.1 dX8_takeRelation_29 rfl (lv_at hl 0 rfl) ?_
    obtain ⟨g_8, g_9, hw⟩ := hw
    refine r_iast (n := 1200) X h (hF.1 73 rfl).1 (fun _ => rfl) (by decide) g_8 g_9 rfl dX8_takeRelation_30 (fun H locs h => ?_)
    obtain ⟨σ_10, eσ_10⟩ : ∃ z : St, z = st σ_6 73 0 (Int.toNat r_7) r_2 := ⟨_, rfl⟩
    rw [← eσ_10] at h
    have hw := hw σ_10 eσ_10
    refine j_bipush X dX8_takeRelation_31 (by decide) ?_
    exact k_ir X rfl h hw dX8_takeRelation_33
  · have hw := hwf c_13
    refine lv_aload_n X.1 X.2.1 dX8_takeRelation_14 rfl (lv_at hl 1 rfl) ?_
    refine lv_aload_n X.1 X.2.1 dX8_takeRelation_15 rfl (lv_at hl 2 rfl) ?_
    refine j_iconst X dX8_takeRelation_16 ?_
    refine k_i h (r_V (C := RX8) (ci := 8) (As := [.ref (ad 9 0), .int (iv 1)]) (rest := []) X h (c_X8_refuse l D ct ad L φ N0 σ_3 1 _ hw) rfl rfl ⟨Nat.le_of_ble_eq_true rfl, Nat.le_of_ble_eq_true rfl⟩ kw_1108 kw_1110 kw_29 kw_125 kw_1111 ⟨rfl, pd_X8_refuse⟩ (hF.1 8 rfl).1 rfl rfl rfl hl.1 rfl (Nat.le_of_ble_eq_true rfl) ⟨Nat.le_of_ble_eq_true rfl, Nat.le_of_ble_eq_true rfl⟩ dX8_takeRelation_17) (fun r_12 σ_11 H locs hw h => ?_)
    exact k_ir X rfl h hw dX8_takeRelation_20
end
section
variable {p : Program} {l : Launch} {e : Env} {s : State} {m : MethodId} {args : Array Value} {below : List Frame} {meth : Method} {c : Code} {D : va_G} {ct : Nat → ClassId} {ad : Nat → Nat → Nat} {L : List (Nat × Nat)} {φ : Nat → Nat → Nat → Bool} {N0 : Nat}
variable {Q : Int → St → Prop}
theorem pd_X8_takeValue : yX8_takeValue.cls ≠ "java/lang/invoke/MethodHandle" ∧ yX8_takeValue.cls ≠ "java/lang/invoke/VarHandle" ∧ (parseMethodDescriptor yX8_takeValue.desc).map (fun d => d.parameters.length) = some 1 := by decide +kernel
set_option maxRecDepth 100000 in
set_option maxHeartbeats 4000000 in
theorem c_X8_takeValue (l : Launch) (D : va_G) (ct : Nat → ClassId) (ad : Nat → Nat → Nat) (L : List (Nat × Nat)) (φ : Nat → Nat → Nat → Bool) (N0 : Nat) (σ : St) (Q : Int → St → Prop) (hw : wp_X8_takeValue σ Q) : Met l yX8_takeValue (.code yX8_takeValue cX8_takeValue 3 (some .int) :: gw) ({ frames := 2, cells := 0, slots := 0, locals := 40 } : Room) (Pm D ct ad L φ N0 σ [.ref (ad 8 0), .ref (ad 9 0)]) (Qi D ct ad L φ N0 Q) 0 0 (AA N0) := by
  refine m_of (by decide) (fun p e s m below meth c X hnm h => ?_)
  have hF := X.2.2.2.2.2.2.2.2.1
  have hl := lv_entry ([.ref (ad 8 0), .ref (ad 9 0)]) (n := 3) (Nat.le_of_ble_eq_true rfl)
  rw [lg_entry_eq]
  generalize (lg_sl ([.ref (ad 8 0), .ref (ad 9 0)]) ++ List.replicate (3 - (lg_sl ([.ref (ad 8 0), .ref (ad 9 0)])).length) Slot.unset).toArray = ls at hl ⊢
  have hl : lv_has ls 3 [(0, .ref (ad 8 0)), (1, .ref (ad 9 0))] := hl
  have h : Hs D ct ad L φ N0 s.heap σ s.heap [] := h
  unfold wp_X8_takeValue at hw
  refine lv_aload_n X.1 X.2.1 dX8_takeValue_0 rfl (lv_at hl 1 rfl) ?_
  refine k_i h (r_V (C := RX9) (ci := 9) (As := []) (rest := []) X h (c_X9_number l D ct ad L φ N0 σ _ hw) rfl rfl ⟨Nat.le_of_ble_eq_true rfl, Nat.le_of_ble_eq_true rfl⟩ kw_1121 kw_1122 kw_1123 kw_124 kw_1124 ⟨rfl, pd_X9_number⟩ (hF.1 9 rfl).1 rfl rfl rfl hl.1 rfl (Nat.le_of_ble_eq_true rfl) ⟨Nat.le_of_ble_eq_true rfl, Nat.le_of_ble_eq_true rfl⟩ dX8_takeValue_1) (fun r_2 σ_1 H locs hw h => ?_)
  refine lv_istore_n (lv' := [(2, .int (iv r_2)), (0, .ref (ad 8 0)), (1, .ref (ad 9 0))]) X.1 X.2.1 dX8_takeValue_4 rfl hl (by decide) rfl (fun ls hl => ?_)
  refine lv_iload_n X.1 X.2.1 dX8_takeValue_5 rfl (lv_at hl 0 rfl) ?_
  refine j_iconst X dX8_takeValue_6 ?_
  obtain ⟨g_3, hwt, hwf⟩ := hw
  refine j_cmp_ne (tgt := 17) X g_3 ⟨by decide, by decide⟩ dX8_takeValue_7 (by decide) (fun c_11 => ?_) (fun c_11 => ?_)
  · have hw := hwt c_11
    refine lv_aload_n X.1 X.2.1 dX8_takeValue_17 rfl (lv_at hl 1 rfl) ?_
    refine r_getR (ci := 8) X inw_8 h (hF.1 8 rfl).1 rfl rfl 8 (by decide) kw_289 rfl ((hF.1 8 rfl).2 8) dX8_takeValue_18 ?_
    refine lv_aload_n X.1 X.2.1 dX8_takeValue_21 rfl (lv_at hl 1 rfl) ?_
    refine k_i h (r_V (C := RX8) (ci := 8) (As := []) (rest := [.ref (ad 74 0)]) X h (c_X8_termAtHand l D ct ad L φ N0 σ_1 _ hw) rfl rfl ⟨Nat.le_of_ble_eq_true rfl, Nat.le_of_ble_eq_true rfl⟩ kw_1136 kw_1138 kw_33 kw_125 kw_1139 ⟨rfl, pd_X8_termAtHand⟩ (hF.1 8 rfl).1 rfl rfl rfl hl.1 rfl (Nat.le_of_ble_eq_true rfl) ⟨Nat.le_of_ble_eq_true rfl, Nat.le_of_ble_eq_true rfl⟩ dX8_takeValue_22) (fun r_5 σ_4 H locs hw h => ?_)
    refine lv_iload_n X.1 X.2.1 dX8_takeValue_25 rfl (lv_at hl 0 rfl) ?_
    obtain ⟨g_6, g_7, hw⟩ := hw
    refine r_iast (n := 1200) X h (hF.1 74 rfl).1 (fun _ => rfl) (by decide) g_6 g_7 rfl dX8_takeValue_26 (fun H locs h => ?_)
    obtain ⟨σ_8, eσ_8⟩ : ∃ z : St, z = st σ_4 74 0 (Int.toNat r_5) r_2 := ⟨_, rfl⟩
    rw [← eσ_8] at h
    have hw := hw σ_8 eσ_8
    refine j_bipush X dX8_takeValue_27 (by decide) ?_
    exact k_ir X rfl h hw dX8_takeValue_29
  · have hw := hwf c_11
    refine lv_aload_n X.1 X.2.1 dX8_takeValue_10 rfl (lv_at hl 1 rfl) ?_
    refine lv_aload_n X.1 X.2.1 dX8_takeValue_11 rfl (lv_at hl 2 rfl) ?_
    refine j_iconst X dX8_takeValue_12 ?_
    refine k_i h (r_V (C := RX8) (ci := 8) (As := [.ref (ad 9 0), .int (iv 1)]) (rest := []) X h (c_X8_refuse l D ct ad L φ N0 σ_1 1 _ hw) rfl rfl ⟨Nat.le_of_ble_eq_true rfl, Nat.le_of_ble_eq_true rfl⟩ kw_1108 kw_1110 kw_29 kw_125 kw_1111 ⟨rfl, pd_X8_refuse⟩ (hF.1 8 rfl).1 rfl rfl rfl hl.1 rfl (Nat.le_of_ble_eq_true rfl) ⟨Nat.le_of_ble_eq_true rfl, Nat.le_of_ble_eq_true rfl⟩ dX8_takeValue_13) (fun r_10 σ_9 H locs hw h => ?_)
    exact k_ir X rfl h hw dX8_takeValue_16
end
section
variable {p : Program} {l : Launch} {e : Env} {s : State} {m : MethodId} {args : Array Value} {below : List Frame} {meth : Method} {c : Code} {D : va_G} {ct : Nat → ClassId} {ad : Nat → Nat → Nat} {L : List (Nat × Nat)} {φ : Nat → Nat → Nat → Bool} {N0 : Nat}
variable {Q : Int → St → Prop}
theorem pd_X8_takeJoint : yX8_takeJoint.cls ≠ "java/lang/invoke/MethodHandle" ∧ yX8_takeJoint.cls ≠ "java/lang/invoke/VarHandle" ∧ (parseMethodDescriptor yX8_takeJoint.desc).map (fun d => d.parameters.length) = some 1 := by decide +kernel
set_option maxRecDepth 100000 in
set_option maxHeartbeats 4000000 in
theorem c_X8_takeJoint (l : Launch) (D : va_G) (ct : Nat → ClassId) (ad : Nat → Nat → Nat) (L : List (Nat × Nat)) (φ : Nat → Nat → Nat → Bool) (N0 : Nat) (σ : St) (Q : Int → St → Prop) (hw : wp_X8_takeJoint σ Q) : Met l yX8_takeJoint (.code yX8_takeJoint cX8_takeJoint 2 (some .int) :: gw) ({ frames := 6, cells := 0, slots := 0, locals := 130 } : Room) (Pm D ct ad L φ N0 σ [.ref (ad 8 0), .ref (ad 9 0)]) (Qi D ct ad L φ N0 Q) 0 0 (AA N0) := by
  refine m_of (by decide) (fun p e s m below meth c X hnm h => ?_)
  have hF := X.2.2.2.2.2.2.2.2.1
  have hl := lv_entry ([.ref (ad 8 0), .ref (ad 9 0)]) (n := 2) (Nat.le_of_ble_eq_true rfl)
  rw [lg_entry_eq]
  generalize (lg_sl ([.ref (ad 8 0), .ref (ad 9 0)]) ++ List.replicate (2 - (lg_sl ([.ref (ad 8 0), .ref (ad 9 0)])).length) Slot.unset).toArray = ls at hl ⊢
  have hl : lv_has ls 2 [(0, .ref (ad 8 0)), (1, .ref (ad 9 0))] := hl
  have h : Hs D ct ad L φ N0 s.heap σ s.heap [] := h
  unfold wp_X8_takeJoint at hw
  refine lv_aload_n X.1 X.2.1 dX8_takeJoint_0 rfl (lv_at hl 1 rfl) ?_
  refine r_ldcS X X.2.2.2.2.2.2.2.1.2.2.2.2.2.2.2.2.2.2.2.2.1 dX8_takeJoint_1 ?_
  refine k_i h (r_V (C := RX9) (ci := 9) (As := [.ref (ct (2000 + 6))]) (rest := []) X h (c_X9_isWord l D ct ad L φ N0 σ 6 _ hw) rfl rfl ⟨Nat.le_of_ble_eq_true rfl, Nat.le_of_ble_eq_true rfl⟩ kw_1126 kw_1127 kw_1128 kw_124 kw_1129 ⟨rfl, pd_X9_isWord⟩ (hF.1 9 rfl).1 rfl rfl rfl hl.1 rfl (Nat.le_of_ble_eq_true rfl) ⟨Nat.le_of_ble_eq_true rfl, Nat.le_of_ble_eq_true rfl⟩ dX8_takeJoint_3) (fun r_2 σ_1 H locs hw h => ?_)
  obtain ⟨g_3, hwt, hwf⟩ := hw
  refine j_if_eq (tgt := 11) X g_3 dX8_takeJoint_6 (by decide) (fun c_10 => ?_) (fun c_10 => ?_)
  · have hw := hwt c_10
    refine lv_aload_n X.1 X.2.1 dX8_takeJoint_11 rfl (lv_at hl 1 rfl) ?_
    refine k_i h (r_V (C := RX9) (ci := 9) (As := []) (rest := []) X h (c_X9_sign l D ct ad L φ N0 σ_1 _ hw) rfl rfl ⟨Nat.le_of_ble_eq_true rfl, Nat.le_of_ble_eq_true rfl⟩ kw_1148 kw_1149 kw_1150 kw_124 kw_1151 ⟨rfl, pd_X9_sign⟩ (hF.1 9 rfl).1 rfl rfl rfl hl.1 rfl (Nat.le_of_ble_eq_true rfl) ⟨Nat.le_of_ble_eq_true rfl, Nat.le_of_ble_eq_true rfl⟩ dX8_takeJoint_12) (fun r_5 σ_4 H locs hw h => ?_)
    refine j_iconst X dX8_takeJoint_15 ?_
    obtain ⟨g_6, hwt, hwf⟩ := hw
    refine j_cmp_ne (tgt := 23) X g_6 ⟨by decide, by decide⟩ dX8_takeJoint_16 (by decide) (fun c_9 => ?_) (fun c_9 => ?_)
    · have hw := hwt c_9
      refine lv_aload_n X.1 X.2.1 dX8_takeJoint_23 rfl (lv_at hl 0 rfl) ?_
      refine lv_aload_n X.1 X.2.1 dX8_takeJoint_24 rfl (lv_at hl 1 rfl) ?_
      refine j_iconst X dX8_takeJoint_25 ?_
      refine k_i h (r_V (C := RX8) (ci := 8) (As := [.ref (ad 9 0), .int (iv 1)]) (rest := []) X h (c_X8_refuse l D ct ad L φ N0 σ_4 1 _ hw) rfl rfl ⟨Nat.le_of_ble_eq_true rfl, Nat.le_of_ble_eq_true rfl⟩ kw_1108 kw_1110 kw_29 kw_125 kw_1111 ⟨rfl, pd_X8_refuse⟩ (hF.1 8 rfl).1 rfl rfl rfl hl.1 rfl (Nat.le_of_ble_eq_true rfl) ⟨Nat.le_of_ble_eq_true rfl, Nat.le_of_ble_eq_true rfl⟩ dX8_takeJoint_26) (fun r_8 σ_7 H locs hw h => ?_)
      exact k_ir X rfl h hw dX8_takeJoint_29
    · have hw := hwf c_9
      refine j_iconst X dX8_takeJoint_19 ?_
      refine lv_goto (tgt := 29) X.1 X.2.1 dX8_takeJoint_20 (by decide) ?_
      exact k_ir X rfl h hw dX8_takeJoint_29
  · have hw := hwf c_10
    refine j_iconst X dX8_takeJoint_9 ?_
    exact k_ir X rfl h hw dX8_takeJoint_10
end
