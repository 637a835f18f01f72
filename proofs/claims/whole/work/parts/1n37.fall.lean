/-! fall, walked by program -/
section
variable {p : Program} {l : Launch} {e : Env} {s : State} {m : MethodId} {args : Array Value} {below : List Frame} {meth : Method} {c : Code} {D : va_G} {ct : Nat → ClassId} {ad : Nat → Nat → Nat} {L : List (Nat × Nat)} {φ : Nat → Nat → Nat → Bool} {N0 : Nat}
variable {Q : Int → St → Prop}
set_option maxRecDepth 100000 in
set_option maxHeartbeats 4000000 in
theorem lb_X11_fall_128 (X : Cx p s m meth c args cX11_fall 9 (some .int) RX11 D ct L φ N0) (σ : St) (x2 : Int) (x3 : Int) (x4 : Int) (j6 : Nat) (y0 : Int) (H : Heap) (locs : List Loc) (ls : Array Slot) (hw : wp_X11_fall_128 Q σ x2 x3 x4 j6 y0) (h : Hs D ct ad L φ N0 s.heap σ H locs) (hl : lv_has ls 9 [(0, .ref (ad 11 0)), (2, .int (iv x2)), (3, .int (iv x3)), (4, .int (iv x4)), (6, .ref (ad 1 j6))]) : W p l e ({ frames := 5, cells := 25, slots := 165, locals := 115 } : Room) s m args below meth c H locs 0 0 (MQ below (Qiw D ct N0 ad L Q) args s 25 165 (AA N0)) (F0 m 128 ls [.int (iv y0)]) := by
  have hF := X.2.2.2.2.2.2.2.2.1
  unfold wp_X11_fall_128 at hw
  refine lv_istore (lv' := [(7, .int (iv y0)), (0, .ref (ad 11 0)), (2, .int (iv x2)), (3, .int (iv x3)), (4, .int (iv x4)), (6, .ref (ad 1 j6))]) X.1 X.2.1 dX11_fall_128 hl (by decide) rfl (fun ls hl => ?_)
  refine lv_iload X.1 X.2.1 dX11_fall_130 (lv_at hl 0 rfl) ?_
  refine j_iconst X dX11_fall_132 ?_
  obtain ⟨g_1, hwt, hwf⟩ := hw
  refine j_cmp_ne (tgt := 139) X g_1 ⟨by decide, by decide⟩ dX11_fall_133 (by decide) (fun c_14 => ?_) (fun c_14 => ?_)
  · have hw := hwt c_14
    refine lv_aload_n X.1 X.2.1 dX11_fall_139 rfl (lv_at hl 1 rfl) ?_
    refine r_get (ci := 11) X inw_11 h (hF.1 11 rfl).1 rfl rfl 4 (by decide) kw_462 rfl dX11_fall_140 ?_
    refine lv_aload_n X.1 X.2.1 dX11_fall_143 rfl (lv_at hl 1 rfl) ?_
    refine r_getR (ci := 11) X inw_11 h (hF.1 11 rfl).1 rfl rfl 2 (by decide) kw_460 rfl ((hF.1 11 rfl).2 2) dX11_fall_144 ?_
    refine r_getN (ci := 0) X inw_0 h (hF.1 0 rfl).1 rfl rfl 4 (by decide) kw_234 rfl dX11_fall_147 ?_
    refine j_iadd X dX11_fall_150 ?_
    refine j_sipush X dX11_fall_151 (by decide) ?_
    obtain ⟨g_2, hwt, hwf⟩ := hw
    refine j_cmp_le (tgt := 160) X g_2 ⟨by decide, by decide⟩ dX11_fall_154 (by decide) (fun c_13 => ?_) (fun c_13 => ?_)
    · have hw := hwt c_13
      refine lv_aload_n X.1 X.2.1 dX11_fall_160 rfl (lv_at hl 1 rfl) ?_
      refine r_getR (ci := 11) X inw_11 h (hF.1 11 rfl).1 rfl rfl 9 (by decide) kw_467 rfl ((hF.1 11 rfl).2 9) dX11_fall_161 ?_
      refine lv_aload_n X.1 X.2.1 dX11_fall_164 rfl (lv_at hl 1 rfl) ?_
      refine r_getR (ci := 11) X inw_11 h (hF.1 11 rfl).1 rfl rfl 0 (by decide) kw_458 rfl ((hF.1 11 rfl).2 0) dX11_fall_165 ?_
      refine r_getN (ci := 7) X inw_7 h (hF.1 7 rfl).1 rfl rfl 3 (by decide) kw_164 rfl dX11_fall_168 ?_
      refine j_iconst X dX11_fall_171 ?_
      refine k_i h (r_V (C := RX8) (ci := 8) (As := [.int (iv (σ 7 0 3)), .int (iv 1)]) (rest := []) X h (c_X8_numberOn l D ct ad L φ N0 σ (σ 7 0 3) 1 _ hw) rfl rfl ⟨Nat.le_of_ble_eq_true rfl, Nat.le_of_ble_eq_true rfl⟩ kw_689 kw_690 kw_691 kw_125 kw_692 ⟨rfl, pd_X8_numberOn⟩ (hF.1 8 rfl).1 rfl rfl rfl hl.1 rfl (Nat.le_of_ble_eq_true rfl) ⟨Nat.le_of_ble_eq_true rfl, Nat.le_of_ble_eq_true rfl⟩ dX11_fall_172) (fun r_4 σ_3 H locs hw h => ?_)
      refine lv_istore (lv' := [(8, .int (iv r_4)), (7, .int (iv y0)), (0, .ref (ad 11 0)), (2, .int (iv x2)), (3, .int (iv x3)), (4, .int (iv x4)), (6, .ref (ad 1 j6))]) X.1 X.2.1 dX11_fall_175 hl (by decide) rfl (fun ls hl => ?_)
      refine lv_aload X.1 X.2.1 dX11_fall_177 (lv_at hl 6 rfl) ?_
      refine lv_dup X.1 X.2.1 dX11_fall_179 rfl ?_
      obtain ⟨g_5, hw⟩ := hw
      refine r_getN (ci := 1) X inw_1 h (h.2.2.2.2.1 j6 g_5) rfl rfl 1 (by decide) kw_1191 rfl dX11_fall_180 ?_
      refine lv_iload X.1 X.2.1 dX11_fall_183 (lv_at hl 0 rfl) ?_
      refine lv_aload_n X.1 X.2.1 dX11_fall_185 rfl (lv_at hl 2 rfl) ?_
      refine lv_iload_n X.1 X.2.1 dX11_fall_186 rfl (lv_at hl 3 rfl) ?_
      refine lv_iload_n X.1 X.2.1 dX11_fall_187 rfl (lv_at hl 4 rfl) ?_
      refine lv_iload X.1 X.2.1 dX11_fall_188 (lv_at hl 5 rfl) ?_
      refine lv_aload X.1 X.2.1 dX11_fall_190 (lv_at hl 6 rfl) ?_
      obtain ⟨g_6, hw⟩ := hw
      refine r_getN (ci := 1) X inw_1 h (h.2.2.2.2.1 j6 g_6) rfl rfl 0 (by decide) kw_1189 rfl dX11_fall_192 ?_
      obtain ⟨g_7, hw⟩ := hw
      have hq1 := (h.2.2.2.2.1 j6 g_7)
      refine k_iw h (r_V (C := RX11) (ci := 11) (As := [.int (iv x2), .int (iv x3), .int (iv x4), .int (iv (σ_3 1 j6 0))]) (rest := [.int (iv r_4), .int (iv (σ_3 1 j6 1)), .ref (ad 1 j6)]) X h (c_X11_makeLogs l D ct ad L φ N0 σ_3 x2 x3 x4 (σ_3 1 j6 0) _ hw) rfl rfl ⟨Nat.le_of_ble_eq_true rfl, Nat.le_of_ble_eq_true rfl⟩ kw_696 kw_698 kw_9 kw_120 kw_699 ⟨rfl, pd_X11_makeLogs⟩ (hF.1 11 rfl).1 rfl rfl rfl hl.1 rfl (Nat.le_of_ble_eq_true rfl) ⟨Nat.le_of_ble_eq_true rfl, Nat.le_of_ble_eq_true rfl⟩ dX11_fall_195) (fun r_9 ad L φ σ_8 H locs hw hE hFn h => ?_)
      rw [← (hE 11 0 (hF.1 11 rfl).1).2] at hl
      rw [← (hE 1 j6 hq1).2] at hl
      rw [← (hE 1 j6 hq1).2]
      have X := X.grow hFn
      have hF := hFn
      refine j_imul X dX11_fall_198 ?_
      refine j_iadd X dX11_fall_199 ?_
      obtain ⟨g_10, hw⟩ := hw
      refine r_putN (ci := 1) X inw_1 tyX1 tyX1_ok nmX1 h (h.2.2.2.2.1 j6 g_10) rfl rfl 1 (by decide) kw_1191 rfl rfl rfl (Nat.le_of_ble_eq_true rfl) rfl rfl dX11_fall_200 (fun H locs h => ?_)
      obtain ⟨σ_11, eσ_11⟩ : ∃ z : St, z = st σ_8 1 j6 1 ((σ_3 1 j6 1) + (r_4 * r_9)) := ⟨_, rfl⟩
      rw [← eσ_11] at h
      have hw := hw σ_11 eσ_11
      refine lv_aload_n X.1 X.2.1 dX11_fall_203 rfl (lv_at hl 2 rfl) ?_
      refine r_getR (ci := 11) X inw_11 h (hF.1 11 rfl).1 rfl rfl 1 (by decide) kw_459 rfl ((hF.1 11 rfl).2 1) dX11_fall_204 ?_
      refine lv_iload_n X.1 X.2.1 dX11_fall_207 rfl (lv_at hl 3 rfl) ?_
      refine lv_iload_n X.1 X.2.1 dX11_fall_208 rfl (lv_at hl 4 rfl) ?_
      refine lv_iload X.1 X.2.1 dX11_fall_209 (lv_at hl 5 rfl) ?_
      refine k_v h (r_V (C := RX3) (ci := 3) (As := [.int (iv x2), .int (iv x3), .int (iv x4)]) (rest := []) X h (c_X3_takeStem l D ct ad L φ N0 σ_11 x2 x3 x4 _ hw) rfl rfl ⟨Nat.le_of_ble_eq_true rfl, Nat.le_of_ble_eq_true rfl⟩ kw_785 kw_786 kw_787 kw_122 kw_788 ⟨rfl, pd_X3_takeStem⟩ (hF.1 3 rfl).1 rfl rfl rfl hl.1 rfl (Nat.le_of_ble_eq_true rfl) ⟨Nat.le_of_ble_eq_true rfl, Nat.le_of_ble_eq_true rfl⟩ dX11_fall_211) (fun σ_12 H locs hw h => ?_)
      refine lv_aload_n X.1 X.2.1 dX11_fall_214 rfl (lv_at hl 2 rfl) ?_
      refine r_getR (ci := 11) X inw_11 h (hF.1 11 rfl).1 rfl rfl 2 (by decide) kw_460 rfl ((hF.1 11 rfl).2 2) dX11_fall_215 ?_
      refine r_getN (ci := 0) X inw_0 h (hF.1 0 rfl).1 rfl rfl 4 (by decide) kw_234 rfl dX11_fall_218 ?_
      refine W.widen (k := 25) (n := 165) (Nat.le_of_ble_eq_true rfl) (Nat.le_of_ble_eq_true rfl) ?_
      exact k_irw X hE rfl h hw dX11_fall_221
    · have hw := hwf c_13
      refine j_bipush X dX11_fall_157 (by decide) ?_
      refine W.widen (k := 25) (n := 165) (Nat.le_of_ble_eq_true rfl) (Nat.le_of_ble_eq_true rfl) ?_
      exact k_irw X Ext.rf rfl h hw dX11_fall_159
  · have hw := hwf c_14
    refine j_bipush X dX11_fall_136 (by decide) ?_
    refine W.widen (k := 25) (n := 165) (Nat.le_of_ble_eq_true rfl) (Nat.le_of_ble_eq_true rfl) ?_
    exact k_irw X Ext.rf rfl h hw dX11_fall_138
theorem pd_X11_fall : yX11_fall.cls ≠ "java/lang/invoke/MethodHandle" ∧ yX11_fall.cls ≠ "java/lang/invoke/VarHandle" ∧ (parseMethodDescriptor yX11_fall.desc).map (fun d => d.parameters.length) = some 5 := by decide +kernel
set_option maxRecDepth 100000 in
set_option maxHeartbeats 4000000 in
theorem c_X11_fall (l : Launch) (D : va_G) (ct : Nat → ClassId) (ad : Nat → Nat → Nat) (L : List (Nat × Nat)) (φ : Nat → Nat → Nat → Bool) (N0 : Nat) (σ : St) (x1 : Int) (x2 : Int) (x3 : Int) (x4 : Int) (x5 : Int) (Q : Int → St → Prop) (hw : wp_X11_fall σ x1 x2 x3 x4 x5 Q) : Met l yX11_fall (.code yX11_fall cX11_fall 9 (some .int) :: gw) ({ frames := 5, cells := 25, slots := 165, locals := 115 } : Room) (Pm D ct ad L φ N0 σ [.ref (ad 11 0), .int (iv x1), .int (iv x2), .int (iv x3), .int (iv x4), .int (iv x5)]) (Qiw D ct N0 ad L Q) 25 165 (AA N0) := by
  refine m_of (by decide) (fun p e s m below meth c X hnm h => ?_)
  have hF := X.2.2.2.2.2.2.2.2.1
  have hl := lv_entry ([.ref (ad 11 0), .int (iv x1), .int (iv x2), .int (iv x3), .int (iv x4), .int (iv x5)]) (n := 9) (Nat.le_of_ble_eq_true rfl)
  rw [lg_entry_eq]
  generalize (lg_sl ([.ref (ad 11 0), .int (iv x1), .int (iv x2), .int (iv x3), .int (iv x4), .int (iv x5)]) ++ List.replicate (9 - (lg_sl ([.ref (ad 11 0), .int (iv x1), .int (iv x2), .int (iv x3), .int (iv x4), .int (iv x5)])).length) Slot.unset).toArray = ls at hl ⊢
  have hl : lv_has ls 9 [(0, .ref (ad 11 0)), (1, .int (iv x1)), (2, .int (iv x2)), (3, .int (iv x3)), (4, .int (iv x4)), (5, .int (iv x5))] := hl
  have h : Hs D ct ad L φ N0 s.heap σ s.heap [] := h
  unfold wp_X11_fall at hw
  refine lv_aload_n X.1 X.2.1 dX11_fall_0 rfl (lv_at hl 0 rfl) ?_
  refine lv_iload_n X.1 X.2.1 dX11_fall_1 rfl (lv_at hl 1 rfl) ?_
  refine k_o h (r_V (C := RX11) (ci := 11) (As := [.int (iv x1)]) (rest := []) X h (c_X11_crewAt l D ct ad L φ N0 σ x1 _ hw) rfl rfl ⟨Nat.le_of_ble_eq_true rfl, Nat.le_of_ble_eq_true rfl⟩ kw_645 kw_647 kw_4 kw_120 kw_648 ⟨rfl, pd_X11_crewAt⟩ (hF.1 11 rfl).1 rfl rfl rfl hl.1 rfl (Nat.le_of_ble_eq_true rfl) ⟨Nat.le_of_ble_eq_true rfl, Nat.le_of_ble_eq_true rfl⟩ dX11_fall_2) (fun o_45 σ_15 H locs hw h => ?_)
  cases o_45 with
  | none =>
    refine lv_astoreN (lv' := [(6, .null), (0, .ref (ad 11 0)), (1, .int (iv x1)), (2, .int (iv x2)), (3, .int (iv x3)), (4, .int (iv x4)), (5, .int (iv x5))]) X.1 X.2.1 dX11_fall_5 hl (by decide) rfl (fun ls hl => ?_)
    refine lv_aloadN X.1 X.2.1 dX11_fall_7 (lv_at hl 0 rfl) ?_
    refine lv_ifnullN (tgt := 36) X.1 X.2.1 dX11_fall_9 (by decide) ?_
    refine j_iconst X dX11_fall_36 ?_
    refine W.widen (k := 25) (n := 165) (Nat.le_of_ble_eq_true rfl) (Nat.le_of_ble_eq_true rfl) ?_
    exact k_irw X Ext.rf rfl h hw dX11_fall_37
  | some j_16 =>
    refine lv_astore (lv' := [(6, .ref (ad 1 j_16)), (0, .ref (ad 11 0)), (1, .int (iv x1)), (2, .int (iv x2)), (3, .int (iv x3)), (4, .int (iv x4)), (5, .int (iv x5))]) X.1 X.2.1 dX11_fall_5 hl (by decide) rfl (fun ls hl => ?_)
    refine lv_aload X.1 X.2.1 dX11_fall_7 (lv_at hl 0 rfl) ?_
    refine lv_ifnull X.1 X.2.1 dX11_fall_9 ?_
    refine lv_aload X.1 X.2.1 dX11_fall_12 (lv_at hl 0 rfl) ?_
    obtain ⟨g_17, hw⟩ := hw
    refine r_getN (ci := 1) X inw_1 h (h.2.2.2.2.1 j_16 g_17) rfl rfl 4 (by decide) kw_1197 rfl dX11_fall_14 ?_
    obtain ⟨g_18, hwt, hwf⟩ := hw
    refine j_if_ne (tgt := 36) X g_18 dX11_fall_17 (by decide) (fun c_44 => ?_) (fun c_44 => ?_)
    · have hw := hwt c_44
      refine j_iconst X dX11_fall_36 ?_
      refine W.widen (k := 25) (n := 165) (Nat.le_of_ble_eq_true rfl) (Nat.le_of_ble_eq_true rfl) ?_
      exact k_irw X Ext.rf rfl h hw dX11_fall_37
    · have hw := hwf c_44
      refine lv_iload_n X.1 X.2.1 dX11_fall_20 rfl (lv_at hl 3 rfl) ?_
      refine k_i h (r_S (As := [.int (iv x2)]) (rest := []) X h (c_X11_isCell l D ct ad L φ N0 σ_15 x2 _ hw) rfl rfl ⟨Nat.le_of_ble_eq_true rfl, Nat.le_of_ble_eq_true rfl⟩ kw_523 kw_524 kw_120 kw_525 pd_X11_isCell rfl hl.1 rfl (Nat.le_of_ble_eq_true rfl) ⟨Nat.le_of_ble_eq_true rfl, Nat.le_of_ble_eq_true rfl⟩ dX11_fall_21) (fun r_20 σ_19 H locs hw h => ?_)
      obtain ⟨g_21, hwt, hwf⟩ := hw
      refine j_if_eq (tgt := 36) X g_21 dX11_fall_24 (by decide) (fun c_43 => ?_) (fun c_43 => ?_)
      · have hw := hwt c_43
        refine j_iconst X dX11_fall_36 ?_
        refine W.widen (k := 25) (n := 165) (Nat.le_of_ble_eq_true rfl) (Nat.le_of_ble_eq_true rfl) ?_
        exact k_irw X Ext.rf rfl h hw dX11_fall_37
      · have hw := hwf c_43
        refine lv_iload_n X.1 X.2.1 dX11_fall_27 rfl (lv_at hl 4 rfl) ?_
        refine lv_iload X.1 X.2.1 dX11_fall_28 (lv_at hl 5 rfl) ?_
        refine k_i h (r_S (As := [.int (iv x3), .int (iv x4)]) (rest := []) X h (c_X11_isStem l D ct ad L φ N0 σ_19 x3 x4 _ hw) rfl rfl ⟨Nat.le_of_ble_eq_true rfl, Nat.le_of_ble_eq_true rfl⟩ kw_533 kw_534 kw_120 kw_535 pd_X11_isStem rfl hl.1 rfl (Nat.le_of_ble_eq_true rfl) ⟨Nat.le_of_ble_eq_true rfl, Nat.le_of_ble_eq_true rfl⟩ dX11_fall_30) (fun r_23 σ_22 H locs hw h => ?_)
        obtain ⟨g_24, hwt, hwf⟩ := hw
        refine j_if_ne (tgt := 38) X g_24 dX11_fall_33 (by decide) (fun c_42 => ?_) (fun c_42 => ?_)
        · have hw := hwt c_42
          refine lv_aload_n X.1 X.2.1 dX11_fall_38 rfl (lv_at hl 1 rfl) ?_
          refine r_getR (ci := 11) X inw_11 h (hF.1 11 rfl).1 rfl rfl 1 (by decide) kw_459 rfl ((hF.1 11 rfl).2 1) dX11_fall_39 ?_
          refine r_getRN (ci := 3) X inw_3 h (hF.1 3 rfl).1 rfl rfl 2 (by decide) kw_193 rfl ((hF.1 3 rfl).2 2) dX11_fall_42 ?_
          refine lv_iload_n X.1 X.2.1 dX11_fall_45 rfl (lv_at hl 3 rfl) ?_
          refine lv_iload_n X.1 X.2.1 dX11_fall_46 rfl (lv_at hl 4 rfl) ?_
          refine lv_iload X.1 X.2.1 dX11_fall_47 (lv_at hl 5 rfl) ?_
          refine k_i h (r_S (As := [.int (iv x2), .int (iv x3), .int (iv x4)]) (rest := [.ref (ad 30 0)]) X h (c_X3_stemPlace l D ct ad L φ N0 σ_22 x2 x3 x4 _ hw) rfl rfl ⟨Nat.le_of_ble_eq_true rfl, Nat.le_of_ble_eq_true rfl⟩ kw_536 kw_537 kw_122 kw_538 pd_X3_stemPlace rfl hl.1 rfl (Nat.le_of_ble_eq_true rfl) ⟨Nat.le_of_ble_eq_true rfl, Nat.le_of_ble_eq_true rfl⟩ dX11_fall_49) (fun r_26 σ_25 H locs hw h => ?_)
          obtain ⟨g_27, g_28, hw⟩ := hw
          refine r_iald (n := 1024) X h (hF.1 30 rfl).1 rfl (by decide) g_27 g_28 dX11_fall_52 ?_
          obtain ⟨g_29, hwt, hwf⟩ := hw
          refine j_if_ne (tgt := 59) X g_29 dX11_fall_53 (by decide) (fun c_41 => ?_) (fun c_41 => ?_)
          · have hw := hwt c_41
            refine lv_aload_n X.1 X.2.1 dX11_fall_59 rfl (lv_at hl 1 rfl) ?_
            refine lv_iload_n X.1 X.2.1 dX11_fall_60 rfl (lv_at hl 2 rfl) ?_
            refine lv_iload_n X.1 X.2.1 dX11_fall_61 rfl (lv_at hl 3 rfl) ?_
            refine lv_iload_n X.1 X.2.1 dX11_fall_62 rfl (lv_at hl 4 rfl) ?_
            refine lv_iload X.1 X.2.1 dX11_fall_63 (lv_at hl 5 rfl) ?_
            refine k_v h (r_V (C := RX11) (ci := 11) (As := [.int (iv x1), .int (iv x2), .int (iv x3), .int (iv x4)]) (rest := []) X h (c_X11_askOfCut l D ct ad L φ N0 σ_25 x1 x2 x3 x4 _ hw) rfl rfl ⟨Nat.le_of_ble_eq_true rfl, Nat.le_of_ble_eq_true rfl⟩ kw_649 kw_651 kw_5 kw_120 kw_652 ⟨rfl, pd_X11_askOfCut⟩ (hF.1 11 rfl).1 rfl rfl rfl hl.1 rfl (Nat.le_of_ble_eq_true rfl) ⟨Nat.le_of_ble_eq_true rfl, Nat.le_of_ble_eq_true rfl⟩ dX11_fall_65) (fun σ_30 H locs hw h => ?_)
            refine lv_aload_n X.1 X.2.1 dX11_fall_68 rfl (lv_at hl 1 rfl) ?_
            refine r_getR (ci := 11) X inw_11 h (hF.1 11 rfl).1 rfl rfl 9 (by decide) kw_467 rfl ((hF.1 11 rfl).2 9) dX11_fall_69 ?_
            refine lv_aload_n X.1 X.2.1 dX11_fall_72 rfl (lv_at hl 1 rfl) ?_
            refine r_getR (ci := 11) X inw_11 h (hF.1 11 rfl).1 rfl rfl 0 (by decide) kw_458 rfl ((hF.1 11 rfl).2 0) dX11_fall_73 ?_
            refine r_getN (ci := 7) X inw_7 h (hF.1 7 rfl).1 rfl rfl 3 (by decide) kw_164 rfl dX11_fall_76 ?_
            refine j_iconst X dX11_fall_79 ?_
            refine k_i h (r_V (C := RX8) (ci := 8) (As := [.int (iv (σ_30 7 0 3)), .int (iv 0)]) (rest := []) X h (c_X8_barring l D ct ad L φ N0 σ_30 (σ_30 7 0 3) 0 _ hw) rfl rfl ⟨Nat.le_of_ble_eq_true rfl, Nat.le_of_ble_eq_true rfl⟩ kw_670 kw_671 kw_672 kw_125 kw_673 ⟨rfl, pd_X8_barring⟩ (hF.1 8 rfl).1 rfl rfl rfl hl.1 rfl (Nat.le_of_ble_eq_true rfl) ⟨Nat.le_of_ble_eq_true rfl, Nat.le_of_ble_eq_true rfl⟩ dX11_fall_80) (fun r_32 σ_31 H locs hw h => ?_)
            refine j_iconst X dX11_fall_83 ?_
            obtain ⟨g_33, hwt, hwf⟩ := hw
            refine j_cmp_eq (tgt := 90) X g_33 ⟨by decide, by decide⟩ dX11_fall_84 (by decide) (fun c_40 => ?_) (fun c_40 => ?_)
            · have hw := hwt c_40
              refine lv_iload X.1 X.2.1 dX11_fall_90 (lv_at hl 6 rfl) ?_
              obtain ⟨g_34, hwt, hwf⟩ := hw
              refine j_if_ne (tgt := 112) X g_34 dX11_fall_92 (by decide) (fun c_39 => ?_) (fun c_39 => ?_)
              · have hw := hwt c_39
                refine lv_aload_n X.1 X.2.1 dX11_fall_112 rfl (lv_at hl 1 rfl) ?_
                refine r_getR (ci := 11) X inw_11 h (hF.1 11 rfl).1 rfl rfl 2 (by decide) kw_460 rfl ((hF.1 11 rfl).2 2) dX11_fall_113 ?_
                refine lv_aload_n X.1 X.2.1 dX11_fall_116 rfl (lv_at hl 1 rfl) ?_
                refine r_getR (ci := 11) X inw_11 h (hF.1 11 rfl).1 rfl rfl 1 (by decide) kw_459 rfl ((hF.1 11 rfl).2 1) dX11_fall_117 ?_
                refine lv_iload_n X.1 X.2.1 dX11_fall_120 rfl (lv_at hl 4 rfl) ?_
                refine lv_iload X.1 X.2.1 dX11_fall_121 (lv_at hl 5 rfl) ?_
                refine lv_iload X.1 X.2.1 dX11_fall_123 (lv_at hl 6 rfl) ?_
                refine k_i h (r_V (C := RX0) (ci := 0) (As := [.ref (ad 3 0), .int (iv x3), .int (iv x4), .int (iv x5)]) (rest := []) X h (c_X0_chooseRow l D ct ad L φ N0 σ_31 x3 x4 x5 _ hw) rfl rfl ⟨Nat.le_of_ble_eq_true rfl, Nat.le_of_ble_eq_true rfl⟩ kw_629 kw_630 kw_631 kw_123 kw_632 ⟨rfl, pd_X0_chooseRow⟩ (hF.1 0 rfl).1 rfl rfl rfl hl.1 rfl (Nat.le_of_ble_eq_true rfl) ⟨Nat.le_of_ble_eq_true rfl, Nat.le_of_ble_eq_true rfl⟩ dX11_fall_125) (fun r_36 σ_35 H locs hw h => ?_)
                exact lb_X11_fall_128 X σ_35 x2 x3 x4 j_16 r_36 _ _ _ hw h (lv_sub hl [1, 3, 4, 5, 0] rfl)
              · have hw := hwf c_39
                refine lv_aload_n X.1 X.2.1 dX11_fall_95 rfl (lv_at hl 1 rfl) ?_
                refine r_getR (ci := 11) X inw_11 h (hF.1 11 rfl).1 rfl rfl 2 (by decide) kw_460 rfl ((hF.1 11 rfl).2 2) dX11_fall_96 ?_
                refine lv_aload_n X.1 X.2.1 dX11_fall_99 rfl (lv_at hl 1 rfl) ?_
                refine r_getR (ci := 11) X inw_11 h (hF.1 11 rfl).1 rfl rfl 1 (by decide) kw_459 rfl ((hF.1 11 rfl).2 1) dX11_fall_100 ?_
                refine lv_iload_n X.1 X.2.1 dX11_fall_103 rfl (lv_at hl 4 rfl) ?_
                refine lv_iload X.1 X.2.1 dX11_fall_104 (lv_at hl 5 rfl) ?_
                refine k_i h (r_V (C := RX0) (ci := 0) (As := [.ref (ad 3 0), .int (iv x3), .int (iv x4)]) (rest := []) X h (c_X0_chooseBest l D ct ad L φ N0 σ_31 x3 x4 _ hw) rfl rfl ⟨Nat.le_of_ble_eq_true rfl, Nat.le_of_ble_eq_true rfl⟩ kw_603 kw_604 kw_605 kw_123 kw_606 ⟨rfl, pd_X0_chooseBest⟩ (hF.1 0 rfl).1 rfl rfl rfl hl.1 rfl (Nat.le_of_ble_eq_true rfl) ⟨Nat.le_of_ble_eq_true rfl, Nat.le_of_ble_eq_true rfl⟩ dX11_fall_106) (fun r_38 σ_37 H locs hw h => ?_)
                refine lv_goto (tgt := 128) X.1 X.2.1 dX11_fall_109 (by decide) ?_
                exact lb_X11_fall_128 X σ_37 x2 x3 x4 j_16 r_38 _ _ _ hw h (lv_sub hl [1, 3, 4, 5, 0] rfl)
            · have hw := hwf c_40
              refine j_bipush X dX11_fall_87 (by decide) ?_
              refine W.widen (k := 25) (n := 165) (Nat.le_of_ble_eq_true rfl) (Nat.le_of_ble_eq_true rfl) ?_
              exact k_irw X Ext.rf rfl h hw dX11_fall_89
          · have hw := hwf c_41
            refine j_bipush X dX11_fall_56 (by decide) ?_
            refine W.widen (k := 25) (n := 165) (Nat.le_of_ble_eq_true rfl) (Nat.le_of_ble_eq_true rfl) ?_
            exact k_irw X Ext.rf rfl h hw dX11_fall_58
        · have hw := hwf c_42
          refine j_iconst X dX11_fall_36 ?_
          refine W.widen (k := 25) (n := 165) (Nat.le_of_ble_eq_true rfl) (Nat.le_of_ble_eq_true rfl) ?_
          exact k_irw X Ext.rf rfl h hw dX11_fall_37
end
