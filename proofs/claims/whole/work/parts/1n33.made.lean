/-! what makes objects, walked by program -/
section
variable {p : Program} {l : Launch} {e : Env} {s : State} {m : MethodId} {args : Array Value} {below : List Frame} {meth : Method} {c : Code} {D : va_G} {ct : Nat → ClassId} {ad : Nat → Nat → Nat} {L : List (Nat × Nat)} {φ : Nat → Nat → Nat → Bool} {N0 : Nat}
variable {Q : St → Prop}
set_option maxRecDepth 100000 in
set_option maxHeartbeats 4000000 in
theorem c_X10_init (l : Launch) (D : va_G) (ct : Nat → ClassId) (ad : Nat → Nat → Nat) (L : List (Nat × Nat)) (φ : Nat → Nat → Nat → Bool) (N0 : Nat) (σ : St) (j0 : Nat) (x1 : Int) (x2 : Int) (x3 : Int) (Q : St → Prop) (hm0 : (10, j0) ∈ L) (hw : wp_X10_init σ j0 x1 x2 x3 Q) : Met l yX10_init (.code yX10_init cX10_init 4 none :: gw) ({ frames := 1, cells := 0, slots := 0, locals := 14 } : Room) (Pm D ct ad L φ N0 σ [.ref (ad 10 j0), .int (iv x1), .int (iv x2), .int (iv x3)]) (Qv D ct ad L φ N0 Q) 0 0 (AA N0) := by
  refine m_of (by decide) (fun p e s m below meth c X hnm h => ?_)
  have hF := X.2.2.2.2.2.2.2.2.1
  have hl := lv_entry ([.ref (ad 10 j0), .int (iv x1), .int (iv x2), .int (iv x3)]) (n := 4) (Nat.le_of_ble_eq_true rfl)
  rw [lg_entry_eq]
  generalize (lg_sl ([.ref (ad 10 j0), .int (iv x1), .int (iv x2), .int (iv x3)]) ++ List.replicate (4 - (lg_sl ([.ref (ad 10 j0), .int (iv x1), .int (iv x2), .int (iv x3)])).length) Slot.unset).toArray = ls at hl ⊢
  have hl : lv_has ls 4 [(0, .ref (ad 10 j0)), (1, .int (iv x1)), (2, .int (iv x2)), (3, .int (iv x3))] := hl
  have h : Hs D ct ad L φ N0 s.heap σ s.heap [] := h
  unfold wp_X10_init at hw
  refine lv_aload_n X.1 X.2.1 dX10_init_0 rfl (lv_at hl 0 rfl) ?_
  refine W.objInit X.1 X.2.1 X.2.2.2.2.1 (X.2.2.2.2.2.2.1 _ kw_817) (X.2.2.2.2.2.2.1 _ kw_151) (X.2.2.2.2.2.2.1 _ kw_152) rfl (by rw [X.2.2.1]; exact hl.1) rfl dX10_init_1 (Nat.le_of_ble_eq_true rfl) (Nat.le_of_ble_eq_true rfl) ?_
  refine W.eq (g2 := F0 m 4 ls []) rfl ?_
  refine lv_aload_n X.1 X.2.1 dX10_init_4 rfl (lv_at hl 0 rfl) ?_
  refine j_iconst X dX10_init_5 ?_
  refine r_put (ci := 10) X inw_10 tyX10 tyX10_ok nmX10 h hm0 rfl rfl 3 (by decide) kw_824 rfl rfl rfl (Nat.le_of_ble_eq_true rfl) rfl rfl dX10_init_6 (fun H locs h => ?_)
  obtain ⟨σ_1, eσ_1⟩ : ∃ z : St, z = st σ 10 j0 3 0 := ⟨_, rfl⟩
  rw [← eσ_1] at h
  have hw := hw σ_1 eσ_1
  refine lv_aload_n X.1 X.2.1 dX10_init_9 rfl (lv_at hl 0 rfl) ?_
  refine j_iconst X dX10_init_10 ?_
  refine r_put (ci := 10) X inw_10 tyX10 tyX10_ok nmX10 h hm0 rfl rfl 4 (by decide) kw_826 rfl rfl rfl (Nat.le_of_ble_eq_true rfl) rfl rfl dX10_init_11 (fun H locs h => ?_)
  obtain ⟨σ_2, eσ_2⟩ : ∃ z : St, z = st σ_1 10 j0 4 (-1) := ⟨_, rfl⟩
  rw [← eσ_2] at h
  have hw := hw σ_2 eσ_2
  refine lv_aload_n X.1 X.2.1 dX10_init_14 rfl (lv_at hl 0 rfl) ?_
  refine lv_iload_n X.1 X.2.1 dX10_init_15 rfl (lv_at hl 1 rfl) ?_
  refine r_putF (ci := 10) X hnm inw_10 tyX10 tyX10_ok nmX10 h hm0 rfl rfl 0 (by decide) kw_818 rfl rfl rfl rfl (Nat.le_of_ble_eq_true rfl) rfl rfl dX10_init_16 (fun H locs h => ?_)
  obtain ⟨σ_3, eσ_3⟩ : ∃ z : St, z = st σ_2 10 j0 0 x1 := ⟨_, rfl⟩
  rw [← eσ_3] at h
  have hw := hw σ_3 eσ_3
  refine lv_aload_n X.1 X.2.1 dX10_init_19 rfl (lv_at hl 0 rfl) ?_
  refine lv_iload_n X.1 X.2.1 dX10_init_20 rfl (lv_at hl 2 rfl) ?_
  refine r_putF (ci := 10) X hnm inw_10 tyX10 tyX10_ok nmX10 h hm0 rfl rfl 1 (by decide) kw_820 rfl rfl rfl rfl (Nat.le_of_ble_eq_true rfl) rfl rfl dX10_init_21 (fun H locs h => ?_)
  obtain ⟨σ_4, eσ_4⟩ : ∃ z : St, z = st σ_3 10 j0 1 x2 := ⟨_, rfl⟩
  rw [← eσ_4] at h
  have hw := hw σ_4 eσ_4
  refine lv_aload_n X.1 X.2.1 dX10_init_24 rfl (lv_at hl 0 rfl) ?_
  refine lv_iload_n X.1 X.2.1 dX10_init_25 rfl (lv_at hl 3 rfl) ?_
  refine r_putF (ci := 10) X hnm inw_10 tyX10 tyX10_ok nmX10 h hm0 rfl rfl 2 (by decide) kw_822 rfl rfl rfl rfl (Nat.le_of_ble_eq_true rfl) rfl rfl dX10_init_26 (fun H locs h => ?_)
  obtain ⟨σ_5, eσ_5⟩ : ∃ z : St, z = st σ_4 10 j0 2 x3 := ⟨_, rfl⟩
  rw [← eσ_5] at h
  have hw := hw σ_5 eσ_5
  exact k_vr X h hw dX10_init_29
end
section
variable {p : Program} {l : Launch} {e : Env} {s : State} {m : MethodId} {args : Array Value} {below : List Frame} {meth : Method} {c : Code} {D : va_G} {ct : Nat → ClassId} {ad : Nat → Nat → Nat} {L : List (Nat × Nat)} {φ : Nat → Nat → Nat → Bool} {N0 : Nat}
variable {Q : St → Prop}
set_option maxRecDepth 100000 in
set_option maxHeartbeats 4000000 in
theorem c_X1_init (l : Launch) (D : va_G) (ct : Nat → ClassId) (ad : Nat → Nat → Nat) (L : List (Nat × Nat)) (φ : Nat → Nat → Nat → Bool) (N0 : Nat) (σ : St) (j0 : Nat) (x1 : Int) (Q : St → Prop) (hm0 : (1, j0) ∈ L) (hw : wp_X1_init σ j0 x1 Q) : Met l yX1_init (.code yX1_init cX1_init 2 none :: gw) ({ frames := 1, cells := 0, slots := 0, locals := 14 } : Room) (Pm D ct ad L φ N0 σ [.ref (ad 1 j0), .int (iv x1)]) (Qv D ct ad L φ N0 Q) 0 0 (AA N0) := by
  refine m_of (by decide) (fun p e s m below meth c X hnm h => ?_)
  have hF := X.2.2.2.2.2.2.2.2.1
  have hl := lv_entry ([.ref (ad 1 j0), .int (iv x1)]) (n := 2) (Nat.le_of_ble_eq_true rfl)
  rw [lg_entry_eq]
  generalize (lg_sl ([.ref (ad 1 j0), .int (iv x1)]) ++ List.replicate (2 - (lg_sl ([.ref (ad 1 j0), .int (iv x1)])).length) Slot.unset).toArray = ls at hl ⊢
  have hl : lv_has ls 2 [(0, .ref (ad 1 j0)), (1, .int (iv x1))] := hl
  have h : Hs D ct ad L φ N0 s.heap σ s.heap [] := h
  unfold wp_X1_init at hw
  refine lv_aload_n X.1 X.2.1 dX1_init_0 rfl (lv_at hl 0 rfl) ?_
  refine W.objInit X.1 X.2.1 X.2.2.2.2.1 (X.2.2.2.2.2.2.1 _ kw_1187) (X.2.2.2.2.2.2.1 _ kw_151) (X.2.2.2.2.2.2.1 _ kw_152) rfl (by rw [X.2.2.1]; exact hl.1) rfl dX1_init_1 (Nat.le_of_ble_eq_true rfl) (Nat.le_of_ble_eq_true rfl) ?_
  refine W.eq (g2 := F0 m 4 ls []) rfl ?_
  refine lv_aload_n X.1 X.2.1 dX1_init_4 rfl (lv_at hl 0 rfl) ?_
  refine j_iconst X dX1_init_5 ?_
  refine r_put (ci := 1) X inw_1 tyX1 tyX1_ok nmX1 h hm0 rfl rfl 1 (by decide) kw_1190 rfl rfl rfl (Nat.le_of_ble_eq_true rfl) rfl rfl dX1_init_6 (fun H locs h => ?_)
  obtain ⟨σ_1, eσ_1⟩ : ∃ z : St, z = st σ 1 j0 1 0 := ⟨_, rfl⟩
  rw [← eσ_1] at h
  have hw := hw σ_1 eσ_1
  refine lv_aload_n X.1 X.2.1 dX1_init_9 rfl (lv_at hl 0 rfl) ?_
  refine j_iconst X dX1_init_10 ?_
  refine r_put (ci := 1) X inw_1 tyX1 tyX1_ok nmX1 h hm0 rfl rfl 2 (by decide) kw_1192 rfl rfl rfl (Nat.le_of_ble_eq_true rfl) rfl rfl dX1_init_11 (fun H locs h => ?_)
  obtain ⟨σ_2, eσ_2⟩ : ∃ z : St, z = st σ_1 1 j0 2 0 := ⟨_, rfl⟩
  rw [← eσ_2] at h
  have hw := hw σ_2 eσ_2
  refine lv_aload_n X.1 X.2.1 dX1_init_14 rfl (lv_at hl 0 rfl) ?_
  refine j_iconst X dX1_init_15 ?_
  refine r_put (ci := 1) X inw_1 tyX1 tyX1_ok nmX1 h hm0 rfl rfl 3 (by decide) kw_1194 rfl rfl rfl (Nat.le_of_ble_eq_true rfl) rfl rfl dX1_init_16 (fun H locs h => ?_)
  obtain ⟨σ_3, eσ_3⟩ : ∃ z : St, z = st σ_2 1 j0 3 0 := ⟨_, rfl⟩
  rw [← eσ_3] at h
  have hw := hw σ_3 eσ_3
  refine lv_aload_n X.1 X.2.1 dX1_init_19 rfl (lv_at hl 0 rfl) ?_
  refine j_iconst X dX1_init_20 ?_
  refine r_put (ci := 1) X inw_1 tyX1 tyX1_ok nmX1 h hm0 rfl rfl 4 (by decide) kw_1196 rfl rfl rfl (Nat.le_of_ble_eq_true rfl) rfl rfl dX1_init_21 (fun H locs h => ?_)
  obtain ⟨σ_4, eσ_4⟩ : ∃ z : St, z = st σ_3 1 j0 4 0 := ⟨_, rfl⟩
  rw [← eσ_4] at h
  have hw := hw σ_4 eσ_4
  refine lv_aload_n X.1 X.2.1 dX1_init_24 rfl (lv_at hl 0 rfl) ?_
  refine lv_iload_n X.1 X.2.1 dX1_init_25 rfl (lv_at hl 1 rfl) ?_
  refine r_putF (ci := 1) X hnm inw_1 tyX1 tyX1_ok nmX1 h hm0 rfl rfl 0 (by decide) kw_1188 rfl rfl rfl rfl (Nat.le_of_ble_eq_true rfl) rfl rfl dX1_init_26 (fun H locs h => ?_)
  obtain ⟨σ_5, eσ_5⟩ : ∃ z : St, z = st σ_4 1 j0 0 x1 := ⟨_, rfl⟩
  rw [← eσ_5] at h
  have hw := hw σ_5 eσ_5
  exact k_vr X h hw dX1_init_29
end
section
variable {p : Program} {l : Launch} {e : Env} {s : State} {m : MethodId} {args : Array Value} {below : List Frame} {meth : Method} {c : Code} {D : va_G} {ct : Nat → ClassId} {ad : Nat → Nat → Nat} {L : List (Nat × Nat)} {φ : Nat → Nat → Nat → Bool} {N0 : Nat}
variable {Q : Int → St → Prop}
theorem pd_X11_way : yX11_way.cls ≠ "java/lang/invoke/MethodHandle" ∧ yX11_way.cls ≠ "java/lang/invoke/VarHandle" ∧ (parseMethodDescriptor yX11_way.desc).map (fun d => d.parameters.length) = some 3 := by decide +kernel
set_option maxRecDepth 100000 in
set_option maxHeartbeats 4000000 in
theorem c_X11_way (l : Launch) (D : va_G) (ct : Nat → ClassId) (ad : Nat → Nat → Nat) (L : List (Nat × Nat)) (φ : Nat → Nat → Nat → Bool) (N0 : Nat) (σ : St) (x1 : Int) (x2 : Int) (x3 : Int) (Q : Int → St → Prop) (hw : wp_X11_way σ x1 x2 x3 Q) : Met l yX11_way (.code yX11_way cX11_way 4 (some .int) :: gw) ({ frames := 3, cells := 1, slots := 5, locals := 62 } : Room) (Pm D ct ad L φ N0 σ [.ref (ad 11 0), .int (iv x1), .int (iv x2), .int (iv x3)]) (Qiw D ct N0 ad L Q) 1 5 (AA N0) := by
  refine m_of (by decide) (fun p e s m below meth c X hnm h => ?_)
  have hF := X.2.2.2.2.2.2.2.2.1
  have hl := lv_entry ([.ref (ad 11 0), .int (iv x1), .int (iv x2), .int (iv x3)]) (n := 4) (Nat.le_of_ble_eq_true rfl)
  rw [lg_entry_eq]
  generalize (lg_sl ([.ref (ad 11 0), .int (iv x1), .int (iv x2), .int (iv x3)]) ++ List.replicate (4 - (lg_sl ([.ref (ad 11 0), .int (iv x1), .int (iv x2), .int (iv x3)])).length) Slot.unset).toArray = ls at hl ⊢
  have hl : lv_has ls 4 [(0, .ref (ad 11 0)), (1, .int (iv x1)), (2, .int (iv x2)), (3, .int (iv x3))] := hl
  have h : Hs D ct ad L φ N0 s.heap σ s.heap [] := h
  unfold wp_X11_way at hw
  refine lv_iload_n X.1 X.2.1 dX11_way_0 rfl (lv_at hl 2 rfl) ?_
  refine k_i h (r_S (As := [.int (iv x2)]) (rest := []) X h (c_X11_isCell l D ct ad L φ N0 σ x2 _ hw) rfl rfl ⟨Nat.le_of_ble_eq_true rfl, Nat.le_of_ble_eq_true rfl⟩ kw_523 kw_524 kw_120 kw_525 pd_X11_isCell rfl hl.1 rfl (Nat.le_of_ble_eq_true rfl) ⟨Nat.le_of_ble_eq_true rfl, Nat.le_of_ble_eq_true rfl⟩ dX11_way_1) (fun r_2 σ_1 H locs hw h => ?_)
  obtain ⟨g_3, hwt, hwf⟩ := hw
  refine j_if_eq (tgt := 22) X g_3 dX11_way_4 (by decide) (fun c_26 => ?_) (fun c_26 => ?_)
  · have hw := hwt c_26
    refine j_iconst X dX11_way_22 ?_
    refine W.widen (k := 1) (n := 5) (Nat.le_of_ble_eq_true rfl) (Nat.le_of_ble_eq_true rfl) ?_
    exact k_irw X Ext.rf rfl h hw dX11_way_23
  · have hw := hwf c_26
    refine lv_iload_n X.1 X.2.1 dX11_way_7 rfl (lv_at hl 3 rfl) ?_
    refine k_i h (r_S (As := [.int (iv x3)]) (rest := []) X h (c_X11_isCell l D ct ad L φ N0 σ_1 x3 _ hw) rfl rfl ⟨Nat.le_of_ble_eq_true rfl, Nat.le_of_ble_eq_true rfl⟩ kw_523 kw_524 kw_120 kw_525 pd_X11_isCell rfl hl.1 rfl (Nat.le_of_ble_eq_true rfl) ⟨Nat.le_of_ble_eq_true rfl, Nat.le_of_ble_eq_true rfl⟩ dX11_way_8) (fun r_5 σ_4 H locs hw h => ?_)
    obtain ⟨g_6, hwt, hwf⟩ := hw
    refine j_if_eq (tgt := 22) X g_6 dX11_way_11 (by decide) (fun c_25 => ?_) (fun c_25 => ?_)
    · have hw := hwt c_25
      refine j_iconst X dX11_way_22 ?_
      refine W.widen (k := 1) (n := 5) (Nat.le_of_ble_eq_true rfl) (Nat.le_of_ble_eq_true rfl) ?_
      exact k_irw X Ext.rf rfl h hw dX11_way_23
    · have hw := hwf c_25
      refine lv_iload_n X.1 X.2.1 dX11_way_14 rfl (lv_at hl 2 rfl) ?_
      refine lv_iload_n X.1 X.2.1 dX11_way_15 rfl (lv_at hl 3 rfl) ?_
      refine k_i h (r_S (As := [.int (iv x2), .int (iv x3)]) (rest := []) X h (c_X3_sideBySide l D ct ad L φ N0 σ_4 x2 x3 _ hw) rfl rfl ⟨Nat.le_of_ble_eq_true rfl, Nat.le_of_ble_eq_true rfl⟩ kw_810 kw_811 kw_122 kw_812 pd_X3_sideBySide rfl hl.1 rfl (Nat.le_of_ble_eq_true rfl) ⟨Nat.le_of_ble_eq_true rfl, Nat.le_of_ble_eq_true rfl⟩ dX11_way_16) (fun r_8 σ_7 H locs hw h => ?_)
      obtain ⟨g_9, hwt, hwf⟩ := hw
      refine j_if_ne (tgt := 24) X g_9 dX11_way_19 (by decide) (fun c_24 => ?_) (fun c_24 => ?_)
      · have hw := hwt c_24
        refine lv_iload_n X.1 X.2.1 dX11_way_24 rfl (lv_at hl 1 rfl) ?_
        refine j_iconst X dX11_way_25 ?_
        refine j_iconst X dX11_way_26 ?_
        refine k_i h (r_S (As := [.int (iv x1), .int (iv 0), .int (iv 4)]) (rest := []) X h (c_X11_within l D ct ad L φ N0 σ_7 x1 0 4 _ hw) rfl rfl ⟨Nat.le_of_ble_eq_true rfl, Nat.le_of_ble_eq_true rfl⟩ kw_526 kw_527 kw_120 kw_528 pd_X11_within rfl hl.1 rfl (Nat.le_of_ble_eq_true rfl) ⟨Nat.le_of_ble_eq_true rfl, Nat.le_of_ble_eq_true rfl⟩ dX11_way_27) (fun r_11 σ_10 H locs hw h => ?_)
        obtain ⟨g_12, hwt, hwf⟩ := hw
        refine j_if_eq (tgt := 42) X g_12 dX11_way_30 (by decide) (fun c_23 => ?_) (fun c_23 => ?_)
        · have hw := hwt c_23
          refine j_iconst X dX11_way_42 ?_
          refine W.widen (k := 1) (n := 5) (Nat.le_of_ble_eq_true rfl) (Nat.le_of_ble_eq_true rfl) ?_
          exact k_irw X Ext.rf rfl h hw dX11_way_43
        · have hw := hwf c_23
          refine lv_aload_n X.1 X.2.1 dX11_way_33 rfl (lv_at hl 0 rfl) ?_
          refine r_get (ci := 11) X inw_11 h (hF.1 11 rfl).1 rfl rfl 6 (by decide) kw_464 rfl dX11_way_34 ?_
          refine j_bipush X dX11_way_37 (by decide) ?_
          obtain ⟨g_13, hwt, hwf⟩ := hw
          refine j_cmp_lt (tgt := 44) X g_13 ⟨by decide, by decide⟩ dX11_way_39 (by decide) (fun c_22 => ?_) (fun c_22 => ?_)
          · have hw := hwt c_22
            refine lv_aload_n X.1 X.2.1 dX11_way_44 rfl (lv_at hl 0 rfl) ?_
            refine r_getR (ci := 11) X inw_11 h (hF.1 11 rfl).1 rfl rfl 5 (by decide) kw_463 rfl ((hF.1 11 rfl).2 5) dX11_way_45 ?_
            refine lv_aload_n X.1 X.2.1 dX11_way_48 rfl (lv_at hl 0 rfl) ?_
            refine r_get (ci := 11) X inw_11 h (hF.1 11 rfl).1 rfl rfl 6 (by decide) kw_464 rfl dX11_way_49 ?_
            obtain ⟨g_14, hw⟩ := hw
            refine r_new (k := 10) (n := (Int.toNat (σ_10 11 0 6))) (fl := 10) (zs := [.int (iv 0), .int (iv 0), .int (iv 0), .int (iv 0), .int (iv 0)]) X h (Or.inl ⟨rfl, rfl⟩) (fun e9 => absurd e9 (by decide)) g_14 inw_10 tyX10_ok kw_248 kw_813 kw_132 rfl (by decide +kernel) (fun _ _ => rfl) (Nat.le_of_ble_eq_true rfl) (Nat.le_of_ble_eq_true rfl) dX11_way_52 (fun ad L φ H hE hFn hmn hφn hAn h => ?_)
            rw [← (hE 11 0 (hF.1 11 rfl).1).2] at hl
            rw [← (hE 78 0 (hF.1 78 rfl).1).2]
            have X := X.grow hFn
            have hF := hFn
            obtain ⟨σ_15, eσ_15⟩ : ∃ z : St, z = st (sta σ_10 10 (Int.toNat (σ_10 11 0 6)) z0) 50 10 (Int.toNat (σ_10 11 0 6)) 1 := ⟨_, rfl⟩
            rw [← eσ_15] at h
            have hw := hw σ_15 eσ_15
            refine lv_dup X.1 X.2.1 dX11_way_55 rfl ?_
            refine lv_iload_n X.1 X.2.1 dX11_way_56 rfl (lv_at hl 1 rfl) ?_
            refine lv_iload_n X.1 X.2.1 dX11_way_57 rfl (lv_at hl 2 rfl) ?_
            refine lv_iload_n X.1 X.2.1 dX11_way_58 rfl (lv_at hl 3 rfl) ?_
            refine k_v h (r_I (As := [.int (iv x1), .int (iv x2), .int (iv x3)]) (rest := [.ref (ad 10 (Int.toNat (σ_10 11 0 6))), .int (iv (σ_10 11 0 6)), .ref (ad 78 0)]) X h (c_X10_init l D ct ad L φ N0 σ_15 (Int.toNat (σ_10 11 0 6)) x1 x2 x3 _ hmn hw) rfl rfl ⟨Nat.le_of_ble_eq_true rfl, Nat.le_of_ble_eq_true rfl⟩ kw_814 kw_815 kw_132 kw_816 rfl pd_X10_init rfl hl.1 rfl (Nat.le_of_ble_eq_true rfl) ⟨Nat.le_of_ble_eq_true rfl, Nat.le_of_ble_eq_true rfl⟩ dX11_way_59) (fun σ_16 H locs hw h => ?_)
            obtain ⟨g_17, g_18, g_19, hw⟩ := hw
            refine r_aast (N := 40) (t := 4) X h (Or.inr (Or.inl ⟨rfl, rfl, rfl⟩)) (hF.1 78 rfl).1 hmn (fun _ => rfl) rfl rfl rfl (by decide) g_17 g_18 rfl g_19 dX11_way_62 (fun H locs h => ?_)
            obtain ⟨σ_20, eσ_20⟩ : ∃ z : St, z = st σ_16 78 0 (Int.toNat (σ_10 11 0 6)) 1 := ⟨_, rfl⟩
            rw [← eσ_20] at h
            have hw := hw σ_20 eσ_20
            refine lv_aload_n X.1 X.2.1 dX11_way_63 rfl (lv_at hl 0 rfl) ?_
            refine lv_dup X.1 X.2.1 dX11_way_64 rfl ?_
            refine r_get (ci := 11) X inw_11 h (hF.1 11 rfl).1 rfl rfl 6 (by decide) kw_464 rfl dX11_way_65 ?_
            refine j_iconst X dX11_way_68 ?_
            refine j_iadd X dX11_way_69 ?_
            refine r_put (ci := 11) X inw_11 tyX11 tyX11_ok nmX11 h (hF.1 11 rfl).1 rfl rfl 6 (by decide) kw_464 rfl rfl rfl (Nat.le_of_ble_eq_true rfl) rfl rfl dX11_way_70 (fun H locs h => ?_)
            obtain ⟨σ_21, eσ_21⟩ : ∃ z : St, z = st σ_20 11 0 6 ((σ_20 11 0 6) + 1) := ⟨_, rfl⟩
            rw [← eσ_21] at h
            have hw := hw σ_21 eσ_21
            refine lv_aload_n X.1 X.2.1 dX11_way_73 rfl (lv_at hl 0 rfl) ?_
            refine r_get (ci := 11) X inw_11 h (hF.1 11 rfl).1 rfl rfl 6 (by decide) kw_464 rfl dX11_way_74 ?_
            refine j_iconst X dX11_way_77 ?_
            refine j_isub X dX11_way_78 ?_
            refine W.widen (k := 1) (n := 5) (Nat.le_of_ble_eq_true rfl) (Nat.le_of_ble_eq_true rfl) ?_
            exact k_irw X hE rfl h hw dX11_way_79
          · have hw := hwf c_22
            refine j_iconst X dX11_way_42 ?_
            refine W.widen (k := 1) (n := 5) (Nat.le_of_ble_eq_true rfl) (Nat.le_of_ble_eq_true rfl) ?_
            exact k_irw X Ext.rf rfl h hw dX11_way_43
      · have hw := hwf c_24
        refine j_iconst X dX11_way_22 ?_
        refine W.widen (k := 1) (n := 5) (Nat.le_of_ble_eq_true rfl) (Nat.le_of_ble_eq_true rfl) ?_
        exact k_irw X Ext.rf rfl h hw dX11_way_23
end
section
variable {p : Program} {l : Launch} {e : Env} {s : State} {m : MethodId} {args : Array Value} {below : List Frame} {meth : Method} {c : Code} {D : va_G} {ct : Nat → ClassId} {ad : Nat → Nat → Nat} {L : List (Nat × Nat)} {φ : Nat → Nat → Nat → Bool} {N0 : Nat}
variable {Q : Int → St → Prop}
theorem pd_X11_crew : yX11_crew.cls ≠ "java/lang/invoke/MethodHandle" ∧ yX11_crew.cls ≠ "java/lang/invoke/VarHandle" ∧ (parseMethodDescriptor yX11_crew.desc).map (fun d => d.parameters.length) = some 1 := by decide +kernel
set_option maxRecDepth 100000 in
set_option maxHeartbeats 4000000 in
theorem c_X11_crew (l : Launch) (D : va_G) (ct : Nat → ClassId) (ad : Nat → Nat → Nat) (L : List (Nat × Nat)) (φ : Nat → Nat → Nat → Bool) (N0 : Nat) (σ : St) (x1 : Int) (Q : Int → St → Prop) (hw : wp_X11_crew σ x1 Q) : Met l yX11_crew (.code yX11_crew cX11_crew 2 (some .int) :: gw) ({ frames := 2, cells := 1, slots := 5, locals := 35 } : Room) (Pm D ct ad L φ N0 σ [.ref (ad 11 0), .int (iv x1)]) (Qiw D ct N0 ad L Q) 1 5 (AA N0) := by
  refine m_of (by decide) (fun p e s m below meth c X hnm h => ?_)
  have hF := X.2.2.2.2.2.2.2.2.1
  have hl := lv_entry ([.ref (ad 11 0), .int (iv x1)]) (n := 2) (Nat.le_of_ble_eq_true rfl)
  rw [lg_entry_eq]
  generalize (lg_sl ([.ref (ad 11 0), .int (iv x1)]) ++ List.replicate (2 - (lg_sl ([.ref (ad 11 0), .int (iv x1)])).length) Slot.unset).toArray = ls at hl ⊢
  have hl : lv_has ls 2 [(0, .ref (ad 11 0)), (1, .int (iv x1))] := hl
  have h : Hs D ct ad L φ N0 s.heap σ s.heap [] := h
  unfold wp_X11_crew at hw
  refine lv_iload_n X.1 X.2.1 dX11_crew_0 rfl (lv_at hl 1 rfl) ?_
  refine j_iconst X dX11_crew_1 ?_
  refine j_bipush X dX11_crew_2 (by decide) ?_
  refine k_i h (r_S (As := [.int (iv x1), .int (iv 0), .int (iv 9)]) (rest := []) X h (c_X11_within l D ct ad L φ N0 σ x1 0 9 _ hw) rfl rfl ⟨Nat.le_of_ble_eq_true rfl, Nat.le_of_ble_eq_true rfl⟩ kw_526 kw_527 kw_120 kw_528 pd_X11_within rfl hl.1 rfl (Nat.le_of_ble_eq_true rfl) ⟨Nat.le_of_ble_eq_true rfl, Nat.le_of_ble_eq_true rfl⟩ dX11_crew_4) (fun r_2 σ_1 H locs hw h => ?_)
  obtain ⟨g_3, hwt, hwf⟩ := hw
  refine j_if_eq (tgt := 19) X g_3 dX11_crew_7 (by decide) (fun c_14 => ?_) (fun c_14 => ?_)
  · have hw := hwt c_14
    refine j_iconst X dX11_crew_19 ?_
    refine W.widen (k := 1) (n := 5) (Nat.le_of_ble_eq_true rfl) (Nat.le_of_ble_eq_true rfl) ?_
    exact k_irw X Ext.rf rfl h hw dX11_crew_20
  · have hw := hwf c_14
    refine lv_aload_n X.1 X.2.1 dX11_crew_10 rfl (lv_at hl 0 rfl) ?_
    refine r_get (ci := 11) X inw_11 h (hF.1 11 rfl).1 rfl rfl 11 (by decide) kw_469 rfl dX11_crew_11 ?_
    refine j_bipush X dX11_crew_14 (by decide) ?_
    obtain ⟨g_4, hwt, hwf⟩ := hw
    refine j_cmp_lt (tgt := 21) X g_4 ⟨by decide, by decide⟩ dX11_crew_16 (by decide) (fun c_13 => ?_) (fun c_13 => ?_)
    · have hw := hwt c_13
      refine lv_aload_n X.1 X.2.1 dX11_crew_21 rfl (lv_at hl 0 rfl) ?_
      refine r_getR (ci := 11) X inw_11 h (hF.1 11 rfl).1 rfl rfl 10 (by decide) kw_468 rfl ((hF.1 11 rfl).2 10) dX11_crew_22 ?_
      refine lv_aload_n X.1 X.2.1 dX11_crew_25 rfl (lv_at hl 0 rfl) ?_
      refine r_get (ci := 11) X inw_11 h (hF.1 11 rfl).1 rfl rfl 11 (by decide) kw_469 rfl dX11_crew_26 ?_
      obtain ⟨g_5, hw⟩ := hw
      refine r_new (k := 1) (n := (Int.toNat (σ_1 11 0 11))) (fl := 1) (zs := [.int (iv 0), .int (iv 0), .int (iv 0), .int (iv 0), .int (iv 0)]) X h (Or.inr (Or.inl ⟨rfl, rfl⟩)) (fun e9 => absurd e9 (by decide)) g_5 inw_1 tyX1_ok kw_325 kw_1183 kw_138 rfl (by decide +kernel) (fun _ _ => rfl) (Nat.le_of_ble_eq_true rfl) (Nat.le_of_ble_eq_true rfl) dX11_crew_29 (fun ad L φ H hE hFn hmn hφn hAn h => ?_)
      rw [← (hE 11 0 (hF.1 11 rfl).1).2] at hl
      rw [← (hE 79 0 (hF.1 79 rfl).1).2]
      have X := X.grow hFn
      have hF := hFn
      obtain ⟨σ_6, eσ_6⟩ : ∃ z : St, z = st (sta σ_1 1 (Int.toNat (σ_1 11 0 11)) z0) 50 1 (Int.toNat (σ_1 11 0 11)) 1 := ⟨_, rfl⟩
      rw [← eσ_6] at h
      have hw := hw σ_6 eσ_6
      refine lv_dup X.1 X.2.1 dX11_crew_32 rfl ?_
      refine lv_iload_n X.1 X.2.1 dX11_crew_33 rfl (lv_at hl 1 rfl) ?_
      refine k_v h (r_I (As := [.int (iv x1)]) (rest := [.ref (ad 1 (Int.toNat (σ_1 11 0 11))), .int (iv (σ_1 11 0 11)), .ref (ad 79 0)]) X h (c_X1_init l D ct ad L φ N0 σ_6 (Int.toNat (σ_1 11 0 11)) x1 _ hmn hw) rfl rfl ⟨Nat.le_of_ble_eq_true rfl, Nat.le_of_ble_eq_true rfl⟩ kw_1184 kw_1185 kw_138 kw_1186 rfl pd_X1_init rfl hl.1 rfl (Nat.le_of_ble_eq_true rfl) ⟨Nat.le_of_ble_eq_true rfl, Nat.le_of_ble_eq_true rfl⟩ dX11_crew_34) (fun σ_7 H locs hw h => ?_)
      obtain ⟨g_8, g_9, g_10, hw⟩ := hw
      refine r_aast (N := 20) (t := 5) X h (Or.inr (Or.inr ⟨rfl, rfl, rfl⟩)) (hF.1 79 rfl).1 hmn (fun _ => rfl) rfl rfl rfl (by decide) g_8 g_9 rfl g_10 dX11_crew_37 (fun H locs h => ?_)
      obtain ⟨σ_11, eσ_11⟩ : ∃ z : St, z = st σ_7 79 0 (Int.toNat (σ_1 11 0 11)) 1 := ⟨_, rfl⟩
      rw [← eσ_11] at h
      have hw := hw σ_11 eσ_11
      refine lv_aload_n X.1 X.2.1 dX11_crew_38 rfl (lv_at hl 0 rfl) ?_
      refine lv_dup X.1 X.2.1 dX11_crew_39 rfl ?_
      refine r_get (ci := 11) X inw_11 h (hF.1 11 rfl).1 rfl rfl 11 (by decide) kw_469 rfl dX11_crew_40 ?_
      refine j_iconst X dX11_crew_43 ?_
      refine j_iadd X dX11_crew_44 ?_
      refine r_put (ci := 11) X inw_11 tyX11 tyX11_ok nmX11 h (hF.1 11 rfl).1 rfl rfl 11 (by decide) kw_469 rfl rfl rfl (Nat.le_of_ble_eq_true rfl) rfl rfl dX11_crew_45 (fun H locs h => ?_)
      obtain ⟨σ_12, eσ_12⟩ : ∃ z : St, z = st σ_11 11 0 11 ((σ_11 11 0 11) + 1) := ⟨_, rfl⟩
      rw [← eσ_12] at h
      have hw := hw σ_12 eσ_12
      refine lv_aload_n X.1 X.2.1 dX11_crew_48 rfl (lv_at hl 0 rfl) ?_
      refine r_get (ci := 11) X inw_11 h (hF.1 11 rfl).1 rfl rfl 11 (by decide) kw_469 rfl dX11_crew_49 ?_
      refine j_iconst X dX11_crew_52 ?_
      refine j_isub X dX11_crew_53 ?_
      refine W.widen (k := 1) (n := 5) (Nat.le_of_ble_eq_true rfl) (Nat.le_of_ble_eq_true rfl) ?_
      exact k_irw X hE rfl h hw dX11_crew_54
    · have hw := hwf c_13
      refine j_iconst X dX11_crew_19 ?_
      refine W.widen (k := 1) (n := 5) (Nat.le_of_ble_eq_true rfl) (Nat.le_of_ble_eq_true rfl) ?_
      exact k_irw X Ext.rf rfl h hw dX11_crew_20
end
