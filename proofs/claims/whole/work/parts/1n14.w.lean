/-! walked by program: 14.w -/
section
variable {p : Program} {l : Launch} {e : Env} {s : State} {m : MethodId} {args : Array Value} {below : List Frame} {meth : Method} {c : Code} {D : va_G} {ct : Nat → ClassId} {ad : Nat → Nat → Nat} {L : List (Nat × Nat)} {φ : Nat → Nat → Nat → Bool} {N0 : Nat}
variable {Q : St → Prop}
set_option maxRecDepth 100000 in
set_option maxHeartbeats 4000000 in
theorem lb_X11_floatLogsAtMill_60 (X : Cx p s m meth c args cX11_floatLogsAtMill 3 none RX11 D ct L φ N0) {K21 : St → Int → Prop} (hK21 : ∀ (σ : St) (x1 : Int) (H : Heap) (locs : List Loc) (ls : Array Slot), K21 σ x1 → Hs D ct ad L φ N0 s.heap σ H locs → lv_has ls 3 [(0, .ref (ad 11 0)), (1, .int (iv x1))] → W p l e ({ frames := 4, cells := 0, slots := 0, locals := 86 } : Room) s m args below meth c H locs 0 0 (MQ below (Qv D ct ad L φ N0 Q) args s 0 0 (AA N0)) (F0 m 21 ls [])) (σ : St) (x1 : Int) (H : Heap) (locs : List Loc) (ls : Array Slot) (hw : wp_X11_floatLogsAtMill_60 K21 Q σ x1) (h : Hs D ct ad L φ N0 s.heap σ H locs) (hl : lv_has ls 3 [(0, .ref (ad 11 0)), (1, .int (iv x1))]) : W p l e ({ frames := 4, cells := 0, slots := 0, locals := 86 } : Room) s m args below meth c H locs 0 0 (MQ below (Qv D ct ad L φ N0 Q) args s 0 0 (AA N0)) (F0 m 60 ls []) := by
  have hF := X.2.2.2.2.2.2.2.2.1
  unfold wp_X11_floatLogsAtMill_60 at hw
  refine j_iinc (kk9 := 1) (lv' := [(1, .int (iv (x1 + 1))), (0, .ref (ad 11 0))]) X dX11_floatLogsAtMill_60 hl rfl (by decide) rfl (fun ls hl => ?_)
  refine lv_goto (tgt := 21) X.1 X.2.1 dX11_floatLogsAtMill_63 (by decide) ?_
  exact hK21 σ (x1 + 1) _ _ _ hw h (lv_sub hl [1, 0] rfl)
set_option maxRecDepth 100000 in
set_option maxHeartbeats 4000000 in
theorem lb_X11_floatLogsAtMill_21 (X : Cx p s m meth c args cX11_floatLogsAtMill 3 none RX11 D ct L φ N0) : ∀ (n : Nat) (σ : St) (x1 : Int) (H : Heap) (locs : List Loc) (ls : Array Slot), wp_X11_floatLogsAtMill_21 Q n σ x1 → Hs D ct ad L φ N0 s.heap σ H locs → lv_has ls 3 [(0, .ref (ad 11 0)), (1, .int (iv x1))] → W p l e ({ frames := 4, cells := 0, slots := 0, locals := 86 } : Room) s m args below meth c H locs 0 0 (MQ below (Qv D ct ad L φ N0 Q) args s 0 0 (AA N0)) (F0 m 21 ls []) := by
  have hF := X.2.2.2.2.2.2.2.2.1
  intro n
  induction n with
  | zero => intro σ x1 H locs ls hw; exact hw.elim
  | succ n ih =>
    intro σ x1 H locs ls hw h hl
    unfold wp_X11_floatLogsAtMill_21 at hw
    refine lv_iload_n X.1 X.2.1 dX11_floatLogsAtMill_21 rfl (lv_at hl 1 rfl) ?_
    refine lv_aload_n X.1 X.2.1 dX11_floatLogsAtMill_22 rfl (lv_at hl 0 rfl) ?_
    refine r_get (ci := 11) X inw_11 h (hF.1 11 rfl).1 rfl rfl 4 (by decide) kw_462 rfl dX11_floatLogsAtMill_23 ?_
    obtain ⟨g_1, g_2, hwt, hwf⟩ := hw
    refine j_cmp_ge (tgt := 66) X g_1 g_2 dX11_floatLogsAtMill_26 (by decide) (fun c_13 => ?_) (fun c_13 => ?_)
    · have hw := hwt c_13
      exact k_vr X h hw dX11_floatLogsAtMill_66
    · have hw := hwf c_13
      refine lv_aload_n X.1 X.2.1 dX11_floatLogsAtMill_29 rfl (lv_at hl 0 rfl) ?_
      refine r_getR (ci := 11) X inw_11 h (hF.1 11 rfl).1 rfl rfl 3 (by decide) kw_461 rfl ((hF.1 11 rfl).2 3) dX11_floatLogsAtMill_30 ?_
      refine lv_iload_n X.1 X.2.1 dX11_floatLogsAtMill_33 rfl (lv_at hl 1 rfl) ?_
      obtain ⟨g_3, g_4, hwt, hwf⟩ := hw
      refine r_aaD (n := 300) (t := 3) X h (hF.1 77 rfl).1 rfl rfl (by decide) g_3 g_4 dX11_floatLogsAtMill_34 (fun c_11 => ?_) (fun c_11 => ?_)
      · have hw := hwt c_11
        refine lv_astore_nN (lv' := [(2, .null), (0, .ref (ad 11 0)), (1, .int (iv x1))]) X.1 X.2.1 dX11_floatLogsAtMill_35 rfl hl (by decide) rfl (fun ls hl => ?_)
        refine lv_aload_nN X.1 X.2.1 dX11_floatLogsAtMill_36 rfl (lv_at hl 0 rfl) ?_
        refine lv_ifnullN (tgt := 60) X.1 X.2.1 dX11_floatLogsAtMill_37 (by decide) ?_
        exact lb_X11_floatLogsAtMill_60 X ih σ x1 _ _ _ hw h (lv_sub hl [1, 2] rfl)
      · have hw := hwf c_11 (h.2.2.2.2.2.1 _ c_11)
        refine lv_astore_n (lv' := [(2, .ref (ad 4 (Int.toNat x1))), (0, .ref (ad 11 0)), (1, .int (iv x1))]) X.1 X.2.1 dX11_floatLogsAtMill_35 rfl hl (by decide) rfl (fun ls hl => ?_)
        refine lv_aload_n X.1 X.2.1 dX11_floatLogsAtMill_36 rfl (lv_at hl 0 rfl) ?_
        refine lv_ifnull X.1 X.2.1 dX11_floatLogsAtMill_37 ?_
        refine lv_aload_n X.1 X.2.1 dX11_floatLogsAtMill_40 rfl (lv_at hl 0 rfl) ?_
        refine lv_aload_n X.1 X.2.1 dX11_floatLogsAtMill_41 rfl (lv_at hl 1 rfl) ?_
        refine r_getR (ci := 11) X inw_11 h (hF.1 11 rfl).1 rfl rfl 1 (by decide) kw_459 rfl ((hF.1 11 rfl).2 1) dX11_floatLogsAtMill_42 ?_
        refine r_getN (ci := 3) X inw_3 h (hF.1 3 rfl).1 rfl rfl 6 (by decide) kw_201 rfl dX11_floatLogsAtMill_45 ?_
        obtain ⟨g_5, hw⟩ := hw
        refine k_i h (r_V (C := RX4) (ci := 4) (As := [.int (iv (σ 3 0 6))]) (rest := []) X h (c_X4_liesIn l D ct ad L φ N0 σ (Int.toNat x1) (σ 3 0 6) _ hw) rfl rfl ⟨Nat.le_of_ble_eq_true rfl, Nat.le_of_ble_eq_true rfl⟩ kw_904 kw_891 kw_892 kw_131 kw_893 ⟨rfl, pd_X4_liesIn⟩ (h.2.2.1 (Int.toNat x1) g_5).1 rfl rfl rfl hl.1 rfl (Nat.le_of_ble_eq_true rfl) ⟨Nat.le_of_ble_eq_true rfl, Nat.le_of_ble_eq_true rfl⟩ dX11_floatLogsAtMill_48) (fun r_7 σ_6 H locs hw h => ?_)
        obtain ⟨g_8, hwt, hwf⟩ := hw
        refine j_if_eq (tgt := 60) X g_8 dX11_floatLogsAtMill_51 (by decide) (fun c_10 => ?_) (fun c_10 => ?_)
        · have hw := hwt c_10
          exact lb_X11_floatLogsAtMill_60 X ih σ_6 x1 _ _ _ hw h (lv_sub hl [1, 2] rfl)
        · have hw := hwf c_10
          refine lv_aload_n X.1 X.2.1 dX11_floatLogsAtMill_54 rfl (lv_at hl 1 rfl) ?_
          refine lv_aload_n X.1 X.2.1 dX11_floatLogsAtMill_55 rfl (lv_at hl 0 rfl) ?_
          refine j_iconst X dX11_floatLogsAtMill_56 ?_
          refine k_v h (r_V (C := RX11) (ci := 11) (As := [.ref (ad 4 (Int.toNat x1)), .int (iv 1)]) (rest := []) X h (c_X11_become l D ct ad L φ N0 σ_6 (Int.toNat x1) 1 _ hw) rfl rfl ⟨Nat.le_of_ble_eq_true rfl, Nat.le_of_ble_eq_true rfl⟩ kw_772 kw_774 kw_11 kw_120 kw_775 ⟨rfl, pd_X11_become⟩ (hF.1 11 rfl).1 rfl rfl rfl hl.1 rfl (Nat.le_of_ble_eq_true rfl) ⟨Nat.le_of_ble_eq_true rfl, Nat.le_of_ble_eq_true rfl⟩ dX11_floatLogsAtMill_57) (fun σ_9 H locs hw h => ?_)
          exact lb_X11_floatLogsAtMill_60 X ih σ_9 x1 _ _ _ hw h (lv_sub hl [1, 2] rfl)
theorem pd_X11_floatLogsAtMill : yX11_floatLogsAtMill.cls ≠ "java/lang/invoke/MethodHandle" ∧ yX11_floatLogsAtMill.cls ≠ "java/lang/invoke/VarHandle" ∧ (parseMethodDescriptor yX11_floatLogsAtMill.desc).map (fun d => d.parameters.length) = some 0 := by decide +kernel
set_option maxRecDepth 100000 in
set_option maxHeartbeats 4000000 in
theorem c_X11_floatLogsAtMill (l : Launch) (D : va_G) (ct : Nat → ClassId) (ad : Nat → Nat → Nat) (L : List (Nat × Nat)) (φ : Nat → Nat → Nat → Bool) (N0 : Nat) (σ : St) (Q : St → Prop) (hw : wp_X11_floatLogsAtMill σ Q) : Met l yX11_floatLogsAtMill (.code yX11_floatLogsAtMill cX11_floatLogsAtMill 3 none :: gw) ({ frames := 4, cells := 0, slots := 0, locals := 86 } : Room) (Pm D ct ad L φ N0 σ [.ref (ad 11 0)]) (Qv D ct ad L φ N0 Q) 0 0 (AA N0) := by
  refine m_of (by decide) (fun p e s m below meth c X hnm h => ?_)
  have hF := X.2.2.2.2.2.2.2.2.1
  have hl := lv_entry ([.ref (ad 11 0)]) (n := 3) (Nat.le_of_ble_eq_true rfl)
  rw [lg_entry_eq]
  generalize (lg_sl ([.ref (ad 11 0)]) ++ List.replicate (3 - (lg_sl ([.ref (ad 11 0)])).length) Slot.unset).toArray = ls at hl ⊢
  have hl : lv_has ls 3 [(0, .ref (ad 11 0))] := hl
  have h : Hs D ct ad L φ N0 s.heap σ s.heap [] := h
  unfold wp_X11_floatLogsAtMill at hw
  refine lv_aload_n X.1 X.2.1 dX11_floatLogsAtMill_0 rfl (lv_at hl 0 rfl) ?_
  refine r_getR (ci := 11) X inw_11 h (hF.1 11 rfl).1 rfl rfl 1 (by decide) kw_459 rfl ((hF.1 11 rfl).2 1) dX11_floatLogsAtMill_1 ?_
  refine r_getRN (ci := 3) X inw_3 h (hF.1 3 rfl).1 rfl rfl 3 (by decide) kw_195 rfl ((hF.1 3 rfl).2 3) dX11_floatLogsAtMill_4 ?_
  refine lv_aload_n X.1 X.2.1 dX11_floatLogsAtMill_7 rfl (lv_at hl 0 rfl) ?_
  refine r_getR (ci := 11) X inw_11 h (hF.1 11 rfl).1 rfl rfl 1 (by decide) kw_459 rfl ((hF.1 11 rfl).2 1) dX11_floatLogsAtMill_8 ?_
  refine r_getN (ci := 3) X inw_3 h (hF.1 3 rfl).1 rfl rfl 6 (by decide) kw_201 rfl dX11_floatLogsAtMill_11 ?_
  obtain ⟨g_14, g_15, hw⟩ := hw
  refine r_iald (n := 64) X h (hF.1 31 rfl).1 rfl (by decide) g_14 g_15 dX11_floatLogsAtMill_14 ?_
  obtain ⟨g_16, hwt, hwf⟩ := hw
  refine j_if_ne (tgt := 19) X g_16 dX11_floatLogsAtMill_15 (by decide) (fun c_17 => ?_) (fun c_17 => ?_)
  · have hw := hwt c_17
    refine j_iconst X dX11_floatLogsAtMill_19 ?_
    refine lv_istore_n (lv' := [(1, .int (iv 0)), (0, .ref (ad 11 0))]) X.1 X.2.1 dX11_floatLogsAtMill_20 rfl hl (by decide) rfl (fun ls hl => ?_)
    exact hw.elim (fun n21 hw => lb_X11_floatLogsAtMill_21 X n21 σ 0 _ _ _ hw h (lv_sub hl [1, 0] rfl))
  · have hw := hwf c_17
    exact k_vr X h hw dX11_floatLogsAtMill_18
end
section
variable {p : Program} {l : Launch} {e : Env} {s : State} {m : MethodId} {args : Array Value} {below : List Frame} {meth : Method} {c : Code} {D : va_G} {ct : Nat → ClassId} {ad : Nat → Nat → Nat} {L : List (Nat × Nat)} {φ : Nat → Nat → Nat → Bool} {N0 : Nat}
variable {Q : Int → St → Prop}
theorem pd_X11_numberFor : yX11_numberFor.cls ≠ "java/lang/invoke/MethodHandle" ∧ yX11_numberFor.cls ≠ "java/lang/invoke/VarHandle" ∧ (parseMethodDescriptor yX11_numberFor.desc).map (fun d => d.parameters.length) = some 2 := by decide +kernel
set_option maxRecDepth 100000 in
set_option maxHeartbeats 4000000 in
theorem c_X11_numberFor (l : Launch) (D : va_G) (ct : Nat → ClassId) (ad : Nat → Nat → Nat) (L : List (Nat × Nat)) (φ : Nat → Nat → Nat → Bool) (N0 : Nat) (σ : St) (x1 : Int) (x2 : Int) (Q : Int → St → Prop) (hw : wp_X11_numberFor σ x1 x2 Q) : Met l yX11_numberFor (.code yX11_numberFor cX11_numberFor 3 (some .int) :: gw) ({ frames := 4, cells := 0, slots := 0, locals := 91 } : Room) (Pm D ct ad L φ N0 σ [.ref (ad 11 0), .int (iv x1), .int (iv x2)]) (Qi D ct ad L φ N0 Q) 0 0 (AA N0) := by
  refine m_of (by decide) (fun p e s m below meth c X hnm h => ?_)
  have hF := X.2.2.2.2.2.2.2.2.1
  have hl := lv_entry ([.ref (ad 11 0), .int (iv x1), .int (iv x2)]) (n := 3) (Nat.le_of_ble_eq_true rfl)
  rw [lg_entry_eq]
  generalize (lg_sl ([.ref (ad 11 0), .int (iv x1), .int (iv x2)]) ++ List.replicate (3 - (lg_sl ([.ref (ad 11 0), .int (iv x1), .int (iv x2)])).length) Slot.unset).toArray = ls at hl ⊢
  have hl : lv_has ls 3 [(0, .ref (ad 11 0)), (1, .int (iv x1)), (2, .int (iv x2))] := hl
  have h : Hs D ct ad L φ N0 s.heap σ s.heap [] := h
  unfold wp_X11_numberFor at hw
  refine lv_aload_n X.1 X.2.1 dX11_numberFor_0 rfl (lv_at hl 0 rfl) ?_
  refine r_getR (ci := 11) X inw_11 h (hF.1 11 rfl).1 rfl rfl 9 (by decide) kw_467 rfl ((hF.1 11 rfl).2 9) dX11_numberFor_1 ?_
  refine lv_aload_n X.1 X.2.1 dX11_numberFor_4 rfl (lv_at hl 0 rfl) ?_
  refine r_getR (ci := 11) X inw_11 h (hF.1 11 rfl).1 rfl rfl 0 (by decide) kw_458 rfl ((hF.1 11 rfl).2 0) dX11_numberFor_5 ?_
  refine k_v h (r_V (C := RX8) (ci := 8) (As := [.ref (ad 7 0)]) (rest := []) X h (c_X8_askOfDay l D ct ad L φ N0 σ _ hw) rfl rfl ⟨Nat.le_of_ble_eq_true rfl, Nat.le_of_ble_eq_true rfl⟩ kw_653 kw_654 kw_655 kw_125 kw_656 ⟨rfl, pd_X8_askOfDay⟩ (hF.1 8 rfl).1 rfl rfl rfl hl.1 rfl (Nat.le_of_ble_eq_true rfl) ⟨Nat.le_of_ble_eq_true rfl, Nat.le_of_ble_eq_true rfl⟩ dX11_numberFor_8) (fun σ_1 H locs hw h => ?_)
  refine lv_aload_n X.1 X.2.1 dX11_numberFor_11 rfl (lv_at hl 0 rfl) ?_
  refine r_getR (ci := 11) X inw_11 h (hF.1 11 rfl).1 rfl rfl 9 (by decide) kw_467 rfl ((hF.1 11 rfl).2 9) dX11_numberFor_12 ?_
  refine r_getRN (ci := 8) X inw_8 h (hF.1 8 rfl).1 rfl rfl 9 (by decide) kw_291 rfl ((hF.1 8 rfl).2 9) dX11_numberFor_15 ?_
  refine j_bipush X dX11_numberFor_18 (by decide) ?_
  refine lv_iload_n X.1 X.2.1 dX11_numberFor_20 rfl (lv_at hl 1 rfl) ?_
  refine r_iast (n := 13) X h (hF.1 75 rfl).1 (fun _ => rfl) (by decide) (by decide) (by decide) rfl dX11_numberFor_21 (fun H locs h => ?_)
  obtain ⟨σ_2, eσ_2⟩ : ∃ z : St, z = st σ_1 75 0 (Int.toNat 11) x1 := ⟨_, rfl⟩
  rw [← eσ_2] at h
  have hw := hw σ_2 eσ_2
  refine lv_aload_n X.1 X.2.1 dX11_numberFor_22 rfl (lv_at hl 0 rfl) ?_
  refine r_getR (ci := 11) X inw_11 h (hF.1 11 rfl).1 rfl rfl 9 (by decide) kw_467 rfl ((hF.1 11 rfl).2 9) dX11_numberFor_23 ?_
  refine lv_aload_n X.1 X.2.1 dX11_numberFor_26 rfl (lv_at hl 0 rfl) ?_
  refine r_getR (ci := 11) X inw_11 h (hF.1 11 rfl).1 rfl rfl 0 (by decide) kw_458 rfl ((hF.1 11 rfl).2 0) dX11_numberFor_27 ?_
  refine r_getN (ci := 7) X inw_7 h (hF.1 7 rfl).1 rfl rfl 3 (by decide) kw_164 rfl dX11_numberFor_30 ?_
  refine lv_iload_n X.1 X.2.1 dX11_numberFor_33 rfl (lv_at hl 2 rfl) ?_
  refine k_i h (r_V (C := RX8) (ci := 8) (As := [.int (iv (σ_2 7 0 3)), .int (iv x2)]) (rest := []) X h (c_X8_numberOn l D ct ad L φ N0 σ_2 (σ_2 7 0 3) x2 _ hw) rfl rfl ⟨Nat.le_of_ble_eq_true rfl, Nat.le_of_ble_eq_true rfl⟩ kw_689 kw_690 kw_691 kw_125 kw_692 ⟨rfl, pd_X8_numberOn⟩ (hF.1 8 rfl).1 rfl rfl rfl hl.1 rfl (Nat.le_of_ble_eq_true rfl) ⟨Nat.le_of_ble_eq_true rfl, Nat.le_of_ble_eq_true rfl⟩ dX11_numberFor_34) (fun r_4 σ_3 H locs hw h => ?_)
  exact k_ir X rfl h hw dX11_numberFor_37
end
section
variable {p : Program} {l : Launch} {e : Env} {s : State} {m : MethodId} {args : Array Value} {below : List Frame} {meth : Method} {c : Code} {D : va_G} {ct : Nat → ClassId} {ad : Nat → Nat → Nat} {L : List (Nat × Nat)} {φ : Nat → Nat → Nat → Bool} {N0 : Nat}
variable {Q : St → Prop}
set_option maxRecDepth 100000 in
set_option maxHeartbeats 4000000 in
theorem lb_X11_closeMonth_38 (X : Cx p s m meth c args cX11_closeMonth 3 none RX11 D ct L φ N0) {K2 : St → Int → Prop} (hK2 : ∀ (σ : St) (x1 : Int) (H : Heap) (locs : List Loc) (ls : Array Slot), K2 σ x1 → Hs D ct ad L φ N0 s.heap σ H locs → lv_has ls 3 [(0, .ref (ad 11 0)), (1, .int (iv x1))] → W p l e ({ frames := 5, cells := 0, slots := 0, locals := 113 } : Room) s m args below meth c H locs 0 0 (MQ below (Qv D ct ad L φ N0 Q) args s 0 0 (AA N0)) (F0 m 2 ls [])) (σ : St) (x1 : Int) (H : Heap) (locs : List Loc) (ls : Array Slot) (hw : wp_X11_closeMonth_38 K2 Q σ x1) (h : Hs D ct ad L φ N0 s.heap σ H locs) (hl : lv_has ls 3 [(0, .ref (ad 11 0)), (1, .int (iv x1))]) : W p l e ({ frames := 5, cells := 0, slots := 0, locals := 113 } : Room) s m args below meth c H locs 0 0 (MQ below (Qv D ct ad L φ N0 Q) args s 0 0 (AA N0)) (F0 m 38 ls []) := by
  have hF := X.2.2.2.2.2.2.2.2.1
  unfold wp_X11_closeMonth_38 at hw
  refine j_iinc (kk9 := 1) (lv' := [(1, .int (iv (x1 + 1))), (0, .ref (ad 11 0))]) X dX11_closeMonth_38 hl rfl (by decide) rfl (fun ls hl => ?_)
  refine lv_goto (tgt := 2) X.1 X.2.1 dX11_closeMonth_41 (by decide) ?_
  exact hK2 σ (x1 + 1) _ _ _ hw h (lv_sub hl [1, 0] rfl)
set_option maxRecDepth 100000 in
set_option maxHeartbeats 4000000 in
theorem lb_X11_closeMonth_2 (X : Cx p s m meth c args cX11_closeMonth 3 none RX11 D ct L φ N0) : ∀ (n : Nat) (σ : St) (x1 : Int) (H : Heap) (locs : List Loc) (ls : Array Slot), wp_X11_closeMonth_2 Q n σ x1 → Hs D ct ad L φ N0 s.heap σ H locs → lv_has ls 3 [(0, .ref (ad 11 0)), (1, .int (iv x1))] → W p l e ({ frames := 5, cells := 0, slots := 0, locals := 113 } : Room) s m args below meth c H locs 0 0 (MQ below (Qv D ct ad L φ N0 Q) args s 0 0 (AA N0)) (F0 m 2 ls []) := by
  have hF := X.2.2.2.2.2.2.2.2.1
  intro n
  induction n with
  | zero => intro σ x1 H locs ls hw; exact hw.elim
  | succ n ih =>
    intro σ x1 H locs ls hw h hl
    unfold wp_X11_closeMonth_2 at hw
    refine lv_iload_n X.1 X.2.1 dX11_closeMonth_2 rfl (lv_at hl 1 rfl) ?_
    refine lv_aload_n X.1 X.2.1 dX11_closeMonth_3 rfl (lv_at hl 0 rfl) ?_
    refine r_get (ci := 11) X inw_11 h (hF.1 11 rfl).1 rfl rfl 11 (by decide) kw_469 rfl dX11_closeMonth_4 ?_
    obtain ⟨g_1, g_2, hwt, hwf⟩ := hw
    refine j_cmp_ge (tgt := 44) X g_1 g_2 dX11_closeMonth_7 (by decide) (fun c_14 => ?_) (fun c_14 => ?_)
    · have hw := hwt c_14
      exact k_vr X h hw dX11_closeMonth_44
    · have hw := hwf c_14
      refine lv_aload_n X.1 X.2.1 dX11_closeMonth_10 rfl (lv_at hl 0 rfl) ?_
      refine r_getR (ci := 11) X inw_11 h (hF.1 11 rfl).1 rfl rfl 10 (by decide) kw_468 rfl ((hF.1 11 rfl).2 10) dX11_closeMonth_11 ?_
      refine lv_iload_n X.1 X.2.1 dX11_closeMonth_14 rfl (lv_at hl 1 rfl) ?_
      obtain ⟨g_3, g_4, hwt, hwf⟩ := hw
      refine r_aaD (n := 20) (t := 5) X h (hF.1 79 rfl).1 rfl rfl (by decide) g_3 g_4 dX11_closeMonth_15 (fun c_12 => ?_) (fun c_12 => ?_)
      · have hw := hwt c_12
        refine lv_astore_nN (lv' := [(2, .null), (0, .ref (ad 11 0)), (1, .int (iv x1))]) X.1 X.2.1 dX11_closeMonth_16 rfl hl (by decide) rfl (fun ls hl => ?_)
        refine lv_aload_nN X.1 X.2.1 dX11_closeMonth_17 rfl (lv_at hl 0 rfl) ?_
        refine lv_ifnullN (tgt := 38) X.1 X.2.1 dX11_closeMonth_18 (by decide) ?_
        exact lb_X11_closeMonth_38 X ih σ x1 _ _ _ hw h (lv_sub hl [1, 2] rfl)
      · have hw := hwf c_12 (h.2.2.2.2.2.2.2.1 _ c_12)
        refine lv_astore_n (lv' := [(2, .ref (ad 1 (Int.toNat x1))), (0, .ref (ad 11 0)), (1, .int (iv x1))]) X.1 X.2.1 dX11_closeMonth_16 rfl hl (by decide) rfl (fun ls hl => ?_)
        refine lv_aload_n X.1 X.2.1 dX11_closeMonth_17 rfl (lv_at hl 0 rfl) ?_
        refine lv_ifnull X.1 X.2.1 dX11_closeMonth_18 ?_
        refine lv_aload_n X.1 X.2.1 dX11_closeMonth_21 rfl (lv_at hl 0 rfl) ?_
        obtain ⟨g_5, hw⟩ := hw
        refine r_getN (ci := 1) X inw_1 h (h.2.2.2.2.1 (Int.toNat x1) g_5) rfl rfl 4 (by decide) kw_1197 rfl dX11_closeMonth_22 ?_
        obtain ⟨g_6, hwt, hwf⟩ := hw
        refine j_if_ne (tgt := 38) X g_6 dX11_closeMonth_25 (by decide) (fun c_11 => ?_) (fun c_11 => ?_)
        · have hw := hwt c_11
          exact lb_X11_closeMonth_38 X ih σ x1 _ _ _ hw h (lv_sub hl [1, 2] rfl)
        · have hw := hwf c_11
          refine lv_aload_n X.1 X.2.1 dX11_closeMonth_28 rfl (lv_at hl 0 rfl) ?_
          refine lv_aload_n X.1 X.2.1 dX11_closeMonth_29 rfl (lv_at hl 1 rfl) ?_
          refine lv_iload_n X.1 X.2.1 dX11_closeMonth_30 rfl (lv_at hl 2 rfl) ?_
          refine j_iconst X dX11_closeMonth_31 ?_
          refine k_i h (r_V (C := RX11) (ci := 11) (As := [.int (iv x1), .int (iv 3)]) (rest := [.ref (ad 1 (Int.toNat x1))]) X h (c_X11_numberFor l D ct ad L φ N0 σ x1 3 _ hw) rfl rfl ⟨Nat.le_of_ble_eq_true rfl, Nat.le_of_ble_eq_true rfl⟩ kw_909 kw_911 kw_21 kw_120 kw_912 ⟨rfl, pd_X11_numberFor⟩ (hF.1 11 rfl).1 rfl rfl rfl hl.1 rfl (Nat.le_of_ble_eq_true rfl) ⟨Nat.le_of_ble_eq_true rfl, Nat.le_of_ble_eq_true rfl⟩ dX11_closeMonth_32) (fun r_8 σ_7 H locs hw h => ?_)
          obtain ⟨g_9, hw⟩ := hw
          refine k_v h (r_V (C := RX1) (ci := 1) (As := [.int (iv r_8)]) (rest := []) X h (c_X1_closeMonth l D ct ad L φ N0 σ_7 (Int.toNat x1) r_8 _ hw) rfl rfl ⟨Nat.le_of_ble_eq_true rfl, Nat.le_of_ble_eq_true rfl⟩ kw_913 kw_914 kw_915 kw_138 kw_916 ⟨rfl, pd_X1_closeMonth⟩ (h.2.2.2.2.1 (Int.toNat x1) g_9) rfl rfl rfl hl.1 rfl (Nat.le_of_ble_eq_true rfl) ⟨Nat.le_of_ble_eq_true rfl, Nat.le_of_ble_eq_true rfl⟩ dX11_closeMonth_35) (fun σ_10 H locs hw h => ?_)
          exact lb_X11_closeMonth_38 X ih σ_10 x1 _ _ _ hw h (lv_sub hl [1, 2] rfl)
theorem pd_X11_closeMonth : yX11_closeMonth.cls ≠ "java/lang/invoke/MethodHandle" ∧ yX11_closeMonth.cls ≠ "java/lang/invoke/VarHandle" ∧ (parseMethodDescriptor yX11_closeMonth.desc).map (fun d => d.parameters.length) = some 0 := by decide +kernel
set_option maxRecDepth 100000 in
set_option maxHeartbeats 4000000 in
theorem c_X11_closeMonth (l : Launch) (D : va_G) (ct : Nat → ClassId) (ad : Nat → Nat → Nat) (L : List (Nat × Nat)) (φ : Nat → Nat → Nat → Bool) (N0 : Nat) (σ : St) (Q : St → Prop) (hw : wp_X11_closeMonth σ Q) : Met l yX11_closeMonth (.code yX11_closeMonth cX11_closeMonth 3 none :: gw) ({ frames := 5, cells := 0, slots := 0, locals := 113 } : Room) (Pm D ct ad L φ N0 σ [.ref (ad 11 0)]) (Qv D ct ad L φ N0 Q) 0 0 (AA N0) := by
  refine m_of (by decide) (fun p e s m below meth c X hnm h => ?_)
  have hF := X.2.2.2.2.2.2.2.2.1
  have hl := lv_entry ([.ref (ad 11 0)]) (n := 3) (Nat.le_of_ble_eq_true rfl)
  rw [lg_entry_eq]
  generalize (lg_sl ([.ref (ad 11 0)]) ++ List.replicate (3 - (lg_sl ([.ref (ad 11 0)])).length) Slot.unset).toArray = ls at hl ⊢
  have hl : lv_has ls 3 [(0, .ref (ad 11 0))] := hl
  have h : Hs D ct ad L φ N0 s.heap σ s.heap [] := h
  unfold wp_X11_closeMonth at hw
  refine j_iconst X dX11_closeMonth_0 ?_
  refine lv_istore_n (lv' := [(1, .int (iv 0)), (0, .ref (ad 11 0))]) X.1 X.2.1 dX11_closeMonth_1 rfl hl (by decide) rfl (fun ls hl => ?_)
  exact hw.elim (fun n2 hw => lb_X11_closeMonth_2 X n2 σ 0 _ _ _ hw h (lv_sub hl [1, 0] rfl))
end
section
variable {p : Program} {l : Launch} {e : Env} {s : State} {m : MethodId} {args : Array Value} {below : List Frame} {meth : Method} {c : Code} {D : va_G} {ct : Nat → ClassId} {ad : Nat → Nat → Nat} {L : List (Nat × Nat)} {φ : Nat → Nat → Nat → Bool} {N0 : Nat}
variable {Q : Int → St → Prop}
set_option maxRecDepth 100000 in
set_option maxHeartbeats 4000000 in
theorem lb_X11_day_112 (X : Cx p s m meth c args cX11_day 4 (some .int) RX11 D ct L φ N0) (σ : St) (x1 : Int) (H : Heap) (locs : List Loc) (ls : Array Slot) (hw : wp_X11_day_112 Q σ x1) (h : Hs D ct ad L φ N0 s.heap σ H locs) (hl : lv_has ls 4 [(0, .ref (ad 11 0)), (1, .int (iv x1))]) : W p l e ({ frames := 7, cells := 0, slots := 0, locals := 151 } : Room) s m args below meth c H locs 0 0 (MQ below (Qi D ct ad L φ N0 Q) args s 0 0 (AA N0)) (F0 m 112 ls []) := by
  have hF := X.2.2.2.2.2.2.2.2.1
  unfold wp_X11_day_112 at hw
  refine lv_aload_n X.1 X.2.1 dX11_day_112 rfl (lv_at hl 0 rfl) ?_
  refine r_getR (ci := 11) X inw_11 h (hF.1 11 rfl).1 rfl rfl 0 (by decide) kw_458 rfl ((hF.1 11 rfl).2 0) dX11_day_113 ?_
  refine k_v h (r_V (C := RX7) (ci := 7) (As := []) (rest := []) X h (c_X7_nextDay l D ct ad L φ N0 σ _ hw) rfl rfl ⟨Nat.le_of_ble_eq_true rfl, Nat.le_of_ble_eq_true rfl⟩ kw_929 kw_930 kw_931 kw_121 kw_932 ⟨rfl, pd_X7_nextDay⟩ (hF.1 7 rfl).1 rfl rfl rfl hl.1 rfl (Nat.le_of_ble_eq_true rfl) ⟨Nat.le_of_ble_eq_true rfl, Nat.le_of_ble_eq_true rfl⟩ dX11_day_116) (fun σ_1 H locs hw h => ?_)
  refine lv_iload_n X.1 X.2.1 dX11_day_119 rfl (lv_at hl 1 rfl) ?_
  exact k_ir X rfl h hw dX11_day_120
set_option maxRecDepth 100000 in
set_option maxHeartbeats 4000000 in
theorem lb_X11_day_90 (X : Cx p s m meth c args cX11_day 4 (some .int) RX11 D ct L φ N0) (σ : St) (x1 : Int) (H : Heap) (locs : List Loc) (ls : Array Slot) (hw : wp_X11_day_90 Q σ x1) (h : Hs D ct ad L φ N0 s.heap σ H locs) (hl : lv_has ls 4 [(0, .ref (ad 11 0)), (1, .int (iv x1))]) : W p l e ({ frames := 7, cells := 0, slots := 0, locals := 151 } : Room) s m args below meth c H locs 0 0 (MQ below (Qi D ct ad L φ N0 Q) args s 0 0 (AA N0)) (F0 m 90 ls []) := by
  have hF := X.2.2.2.2.2.2.2.2.1
  unfold wp_X11_day_90 at hw
  refine lv_aload_n X.1 X.2.1 dX11_day_90 rfl (lv_at hl 0 rfl) ?_
  refine r_getR (ci := 11) X inw_11 h (hF.1 11 rfl).1 rfl rfl 0 (by decide) kw_458 rfl ((hF.1 11 rfl).2 0) dX11_day_91 ?_
  refine r_getN (ci := 7) X inw_7 h (hF.1 7 rfl).1 rfl rfl 3 (by decide) kw_164 rfl dX11_day_94 ?_
  refine j_bipush X dX11_day_97 (by decide) ?_
  obtain ⟨g_2, hw⟩ := hw
  refine j_irem X g_2 ⟨by decide, by decide⟩ (by decide) (by decide) dX11_day_99 ?_
  refine j_bipush X dX11_day_100 (by decide) ?_
  obtain ⟨g_3, hwt, hwf⟩ := hw
  refine j_cmp_ne (tgt := 112) X g_3 ⟨by decide, by decide⟩ dX11_day_102 (by decide) (fun c_5 => ?_) (fun c_5 => ?_)
  · have hw := hwt c_5
    exact lb_X11_day_112 X σ x1 _ _ _ hw h (lv_sub hl [0, 1] rfl)
  · have hw := hwf c_5
    refine lv_aload_n X.1 X.2.1 dX11_day_105 rfl (lv_at hl 0 rfl) ?_
    refine r_getR (ci := 11) X inw_11 h (hF.1 11 rfl).1 rfl rfl 1 (by decide) kw_459 rfl ((hF.1 11 rfl).2 1) dX11_day_106 ?_
    refine k_v h (r_V (C := RX3) (ci := 3) (As := []) (rest := []) X h (c_X3_endYear l D ct ad L φ N0 σ _ hw) rfl rfl ⟨Nat.le_of_ble_eq_true rfl, Nat.le_of_ble_eq_true rfl⟩ kw_920 kw_921 kw_922 kw_122 kw_923 ⟨rfl, pd_X3_endYear⟩ (hF.1 3 rfl).1 rfl rfl rfl hl.1 rfl (Nat.le_of_ble_eq_true rfl) ⟨Nat.le_of_ble_eq_true rfl, Nat.le_of_ble_eq_true rfl⟩ dX11_day_109) (fun σ_4 H locs hw h => ?_)
    exact lb_X11_day_112 X σ_4 x1 _ _ _ hw h (lv_sub hl [0, 1] rfl)
set_option maxRecDepth 100000 in
set_option maxHeartbeats 4000000 in
theorem lb_X11_day_67 (X : Cx p s m meth c args cX11_day 4 (some .int) RX11 D ct L φ N0) (σ : St) (x1 : Int) (H : Heap) (locs : List Loc) (ls : Array Slot) (hw : wp_X11_day_67 Q σ x1) (h : Hs D ct ad L φ N0 s.heap σ H locs) (hl : lv_has ls 4 [(0, .ref (ad 11 0)), (1, .int (iv x1))]) : W p l e ({ frames := 7, cells := 0, slots := 0, locals := 151 } : Room) s m args below meth c H locs 0 0 (MQ below (Qi D ct ad L φ N0 Q) args s 0 0 (AA N0)) (F0 m 67 ls []) := by
  have hF := X.2.2.2.2.2.2.2.2.1
  unfold wp_X11_day_67 at hw
  refine lv_aload_n X.1 X.2.1 dX11_day_67 rfl (lv_at hl 0 rfl) ?_
  refine k_v h (r_V (C := RX11) (ci := 11) (As := []) (rest := []) X h (c_X11_floatLogsAtMill l D ct ad L φ N0 σ _ hw) rfl rfl ⟨Nat.le_of_ble_eq_true rfl, Nat.le_of_ble_eq_true rfl⟩ kw_900 kw_902 kw_19 kw_120 kw_903 ⟨rfl, pd_X11_floatLogsAtMill⟩ (hF.1 11 rfl).1 rfl rfl rfl hl.1 rfl (Nat.le_of_ble_eq_true rfl) ⟨Nat.le_of_ble_eq_true rfl, Nat.le_of_ble_eq_true rfl⟩ dX11_day_68) (fun σ_6 H locs hw h => ?_)
  refine lv_aload_n X.1 X.2.1 dX11_day_71 rfl (lv_at hl 0 rfl) ?_
  refine r_getR (ci := 11) X inw_11 h (hF.1 11 rfl).1 rfl rfl 0 (by decide) kw_458 rfl ((hF.1 11 rfl).2 0) dX11_day_72 ?_
  refine r_getN (ci := 7) X inw_7 h (hF.1 7 rfl).1 rfl rfl 3 (by decide) kw_164 rfl dX11_day_75 ?_
  refine j_bipush X dX11_day_78 (by decide) ?_
  obtain ⟨g_7, hw⟩ := hw
  refine j_irem X g_7 ⟨by decide, by decide⟩ (by decide) (by decide) dX11_day_80 ?_
  refine j_bipush X dX11_day_81 (by decide) ?_
  obtain ⟨g_8, hwt, hwf⟩ := hw
  refine j_cmp_ne (tgt := 90) X g_8 ⟨by decide, by decide⟩ dX11_day_83 (by decide) (fun c_10 => ?_) (fun c_10 => ?_)
  · have hw := hwt c_10
    exact lb_X11_day_90 X σ_6 x1 _ _ _ hw h (lv_sub hl [0, 1] rfl)
  · have hw := hwf c_10
    refine lv_aload_n X.1 X.2.1 dX11_day_86 rfl (lv_at hl 0 rfl) ?_
    refine k_v h (r_V (C := RX11) (ci := 11) (As := []) (rest := []) X h (c_X11_closeMonth l D ct ad L φ N0 σ_6 _ hw) rfl rfl ⟨Nat.le_of_ble_eq_true rfl, Nat.le_of_ble_eq_true rfl⟩ kw_905 kw_907 kw_20 kw_120 kw_908 ⟨rfl, pd_X11_closeMonth⟩ (hF.1 11 rfl).1 rfl rfl rfl hl.1 rfl (Nat.le_of_ble_eq_true rfl) ⟨Nat.le_of_ble_eq_true rfl, Nat.le_of_ble_eq_true rfl⟩ dX11_day_87) (fun σ_9 H locs hw h => ?_)
    exact lb_X11_day_90 X σ_9 x1 _ _ _ hw h (lv_sub hl [0, 1] rfl)
set_option maxRecDepth 100000 in
set_option maxHeartbeats 4000000 in
theorem lb_X11_day_61 (X : Cx p s m meth c args cX11_day 4 (some .int) RX11 D ct L φ N0) {K19 : St → Int → Int → Prop} {K67 : St → Int → Prop} (hK19 : ∀ (σ : St) (x1 : Int) (x2 : Int) (H : Heap) (locs : List Loc) (ls : Array Slot), K19 σ x1 x2 → Hs D ct ad L φ N0 s.heap σ H locs → lv_has ls 4 [(0, .ref (ad 11 0)), (1, .int (iv x1)), (2, .int (iv x2))] → W p l e ({ frames := 7, cells := 0, slots := 0, locals := 151 } : Room) s m args below meth c H locs 0 0 (MQ below (Qi D ct ad L φ N0 Q) args s 0 0 (AA N0)) (F0 m 19 ls [])) (hK67 : ∀ (σ : St) (x1 : Int) (H : Heap) (locs : List Loc) (ls : Array Slot), K67 σ x1 → Hs D ct ad L φ N0 s.heap σ H locs → lv_has ls 4 [(0, .ref (ad 11 0)), (1, .int (iv x1))] → W p l e ({ frames := 7, cells := 0, slots := 0, locals := 151 } : Room) s m args below meth c H locs 0 0 (MQ below (Qi D ct ad L φ N0 Q) args s 0 0 (AA N0)) (F0 m 67 ls [])) (σ : St) (x1 : Int) (x2 : Int) (H : Heap) (locs : List Loc) (ls : Array Slot) (hw : wp_X11_day_61 K19 K67 Q σ x1 x2) (h : Hs D ct ad L φ N0 s.heap σ H locs) (hl : lv_has ls 4 [(0, .ref (ad 11 0)), (1, .int (iv x1)), (2, .int (iv x2))]) : W p l e ({ frames := 7, cells := 0, slots := 0, locals := 151 } : Room) s m args below meth c H locs 0 0 (MQ below (Qi D ct ad L φ N0 Q) args s 0 0 (AA N0)) (F0 m 61 ls []) := by
  have hF := X.2.2.2.2.2.2.2.2.1
  unfold wp_X11_day_61 at hw
  refine j_iinc (kk9 := 2) (lv' := [(2, .int (iv (x2 + 1))), (0, .ref (ad 11 0)), (1, .int (iv x1))]) X dX11_day_61 hl rfl (by decide) rfl (fun ls hl => ?_)
  refine lv_goto (tgt := 19) X.1 X.2.1 dX11_day_64 (by decide) ?_
  exact hK19 σ x1 (x2 + 1) _ _ _ hw h (lv_sub hl [1, 2, 0] rfl)
set_option maxRecDepth 100000 in
set_option maxHeartbeats 4000000 in
theorem lb_X11_day_19 (X : Cx p s m meth c args cX11_day 4 (some .int) RX11 D ct L φ N0) {K67 : St → Int → Prop} (hK67 : ∀ (σ : St) (x1 : Int) (H : Heap) (locs : List Loc) (ls : Array Slot), K67 σ x1 → Hs D ct ad L φ N0 s.heap σ H locs → lv_has ls 4 [(0, .ref (ad 11 0)), (1, .int (iv x1))] → W p l e ({ frames := 7, cells := 0, slots := 0, locals := 151 } : Room) s m args below meth c H locs 0 0 (MQ below (Qi D ct ad L φ N0 Q) args s 0 0 (AA N0)) (F0 m 67 ls [])) : ∀ (n : Nat) (σ : St) (x1 : Int) (x2 : Int) (H : Heap) (locs : List Loc) (ls : Array Slot), wp_X11_day_19 K67 Q n σ x1 x2 → Hs D ct ad L φ N0 s.heap σ H locs → lv_has ls 4 [(0, .ref (ad 11 0)), (1, .int (iv x1)), (2, .int (iv x2))] → W p l e ({ frames := 7, cells := 0, slots := 0, locals := 151 } : Room) s m args below meth c H locs 0 0 (MQ below (Qi D ct ad L φ N0 Q) args s 0 0 (AA N0)) (F0 m 19 ls []) := by
  have hF := X.2.2.2.2.2.2.2.2.1
  intro n
  induction n with
  | zero => intro σ x1 x2 H locs ls hw; exact hw.elim
  | succ n ih =>
    intro σ x1 x2 H locs ls hw h hl
    unfold wp_X11_day_19 at hw
    refine lv_iload_n X.1 X.2.1 dX11_day_19 rfl (lv_at hl 2 rfl) ?_
    refine lv_aload_n X.1 X.2.1 dX11_day_20 rfl (lv_at hl 0 rfl) ?_
    refine r_get (ci := 11) X inw_11 h (hF.1 11 rfl).1 rfl rfl 6 (by decide) kw_464 rfl dX11_day_21 ?_
    obtain ⟨g_11, g_12, hwt, hwf⟩ := hw
    refine j_cmp_ge (tgt := 67) X g_11 g_12 dX11_day_24 (by decide) (fun c_25 => ?_) (fun c_25 => ?_)
    · have hw := hwt c_25
      exact hK67 σ x1 _ _ _ hw h (lv_sub hl [0, 1] rfl)
    · have hw := hwf c_25
      refine lv_aload_n X.1 X.2.1 dX11_day_27 rfl (lv_at hl 0 rfl) ?_
      refine r_getR (ci := 11) X inw_11 h (hF.1 11 rfl).1 rfl rfl 5 (by decide) kw_463 rfl ((hF.1 11 rfl).2 5) dX11_day_28 ?_
      refine lv_iload_n X.1 X.2.1 dX11_day_31 rfl (lv_at hl 2 rfl) ?_
      obtain ⟨g_13, g_14, hwt, hwf⟩ := hw
      refine r_aaD (n := 40) (t := 4) X h (hF.1 78 rfl).1 rfl rfl (by decide) g_13 g_14 dX11_day_32 (fun c_23 => ?_) (fun c_23 => ?_)
      · have hw := hwt c_23
        refine lv_astore_nN (lv' := [(3, .null), (0, .ref (ad 11 0)), (1, .int (iv x1)), (2, .int (iv x2))]) X.1 X.2.1 dX11_day_33 rfl hl (by decide) rfl (fun ls hl => ?_)
        refine lv_aload_nN X.1 X.2.1 dX11_day_34 rfl (lv_at hl 0 rfl) ?_
        refine lv_ifnullN (tgt := 61) X.1 X.2.1 dX11_day_35 (by decide) ?_
        exact lb_X11_day_61 X ih hK67 σ x1 x2 _ _ _ hw h (lv_sub hl [1, 2, 3] rfl)
      · have hw := hwf c_23 (h.2.2.2.2.2.2.1 _ c_23)
        refine lv_astore_n (lv' := [(3, .ref (ad 10 (Int.toNat x2))), (0, .ref (ad 11 0)), (1, .int (iv x1)), (2, .int (iv x2))]) X.1 X.2.1 dX11_day_33 rfl hl (by decide) rfl (fun ls hl => ?_)
        refine lv_aload_n X.1 X.2.1 dX11_day_34 rfl (lv_at hl 0 rfl) ?_
        refine lv_ifnull X.1 X.2.1 dX11_day_35 ?_
        refine lv_aload_n X.1 X.2.1 dX11_day_38 rfl (lv_at hl 1 rfl) ?_
        refine r_getR (ci := 11) X inw_11 h (hF.1 11 rfl).1 rfl rfl 1 (by decide) kw_459 rfl ((hF.1 11 rfl).2 1) dX11_day_39 ?_
        refine r_getRN (ci := 3) X inw_3 h (hF.1 3 rfl).1 rfl rfl 3 (by decide) kw_195 rfl ((hF.1 3 rfl).2 3) dX11_day_42 ?_
        refine lv_aload_n X.1 X.2.1 dX11_day_45 rfl (lv_at hl 0 rfl) ?_
        obtain ⟨g_15, hw⟩ := hw
        refine r_getN (ci := 10) X inw_10 h (h.2.2.2.1 (Int.toNat x2) g_15) rfl rfl 1 (by decide) kw_821 rfl dX11_day_46 ?_
        obtain ⟨g_16, g_17, hw⟩ := hw
        refine r_iald (n := 64) X h (hF.1 31 rfl).1 rfl (by decide) g_16 g_17 dX11_day_49 ?_
        obtain ⟨g_18, hwt, hwf⟩ := hw
        refine j_if_le (tgt := 61) X g_18 dX11_day_50 (by decide) (fun c_22 => ?_) (fun c_22 => ?_)
        · have hw := hwt c_22
          exact lb_X11_day_61 X ih hK67 σ x1 x2 _ _ _ hw h (lv_sub hl [1, 2, 3] rfl)
        · have hw := hwf c_22
          refine lv_iload_n X.1 X.2.1 dX11_day_53 rfl (lv_at hl 2 rfl) ?_
          refine lv_aload_n X.1 X.2.1 dX11_day_54 rfl (lv_at hl 1 rfl) ?_
          refine lv_aload_n X.1 X.2.1 dX11_day_55 rfl (lv_at hl 0 rfl) ?_
          refine k_i h (r_V (C := RX11) (ci := 11) (As := [.ref (ad 10 (Int.toNat x2))]) (rest := [.int (iv x1)]) X h (c_X11_carryOver l D ct ad L φ N0 σ (Int.toNat x2) _ hw) rfl rfl ⟨Nat.le_of_ble_eq_true rfl, Nat.le_of_ble_eq_true rfl⟩ kw_882 kw_884 kw_17 kw_120 kw_885 ⟨rfl, pd_X11_carryOver⟩ (hF.1 11 rfl).1 rfl rfl rfl hl.1 rfl (Nat.le_of_ble_eq_true rfl) ⟨Nat.le_of_ble_eq_true rfl, Nat.le_of_ble_eq_true rfl⟩ dX11_day_56) (fun r_20 σ_19 H locs hw h => ?_)
          refine j_iadd X dX11_day_59 ?_
          refine j_bind (fun v_21 ev_21 => ?_)
          have hw := hw v_21 ev_21
          refine lv_istore_n (lv' := [(1, .int (iv v_21)), (3, .ref (ad 10 (Int.toNat x2))), (0, .ref (ad 11 0)), (2, .int (iv x2))]) X.1 X.2.1 dX11_day_60 rfl hl (by decide) rfl (fun ls hl => ?_)
          exact lb_X11_day_61 X ih hK67 σ_19 v_21 x2 _ _ _ hw h (lv_sub hl [2, 0, 3] rfl)
theorem pd_X11_day : yX11_day.cls ≠ "java/lang/invoke/MethodHandle" ∧ yX11_day.cls ≠ "java/lang/invoke/VarHandle" ∧ (parseMethodDescriptor yX11_day.desc).map (fun d => d.parameters.length) = some 0 := by decide +kernel
set_option maxRecDepth 100000 in
set_option maxHeartbeats 4000000 in
theorem c_X11_day (l : Launch) (D : va_G) (ct : Nat → ClassId) (ad : Nat → Nat → Nat) (L : List (Nat × Nat)) (φ : Nat → Nat → Nat → Bool) (N0 : Nat) (σ : St) (Q : Int → St → Prop) (hw : wp_X11_day σ Q) : Met l yX11_day (.code yX11_day cX11_day 4 (some .int) :: gw) ({ frames := 7, cells := 0, slots := 0, locals := 151 } : Room) (Pm D ct ad L φ N0 σ [.ref (ad 11 0)]) (Qi D ct ad L φ N0 Q) 0 0 (AA N0) := by
  refine m_of (by decide) (fun p e s m below meth c X hnm h => ?_)
  have hF := X.2.2.2.2.2.2.2.2.1
  have hl := lv_entry ([.ref (ad 11 0)]) (n := 4) (Nat.le_of_ble_eq_true rfl)
  rw [lg_entry_eq]
  generalize (lg_sl ([.ref (ad 11 0)]) ++ List.replicate (4 - (lg_sl ([.ref (ad 11 0)])).length) Slot.unset).toArray = ls at hl ⊢
  have hl : lv_has ls 4 [(0, .ref (ad 11 0))] := hl
  have h : Hs D ct ad L φ N0 s.heap σ s.heap [] := h
  unfold wp_X11_day at hw
  refine lv_aload_n X.1 X.2.1 dX11_day_0 rfl (lv_at hl 0 rfl) ?_
  refine r_getR (ci := 11) X inw_11 h (hF.1 11 rfl).1 rfl rfl 0 (by decide) kw_458 rfl ((hF.1 11 rfl).2 0) dX11_day_1 ?_
  refine r_getN (ci := 7) X inw_7 h (hF.1 7 rfl).1 rfl rfl 3 (by decide) kw_164 rfl dX11_day_4 ?_
  refine j_sipush X dX11_day_7 (by decide) ?_
  obtain ⟨g_26, hwt, hwf⟩ := hw
  refine j_cmp_lt (tgt := 15) X g_26 ⟨by decide, by decide⟩ dX11_day_10 (by decide) (fun c_27 => ?_) (fun c_27 => ?_)
  · have hw := hwt c_27
    refine j_iconst X dX11_day_15 ?_
    refine lv_istore_n (lv' := [(1, .int (iv 0)), (0, .ref (ad 11 0))]) X.1 X.2.1 dX11_day_16 rfl hl (by decide) rfl (fun ls hl => ?_)
    refine j_iconst X dX11_day_17 ?_
    refine lv_istore_n (lv' := [(2, .int (iv 0)), (1, .int (iv 0)), (0, .ref (ad 11 0))]) X.1 X.2.1 dX11_day_18 rfl hl (by decide) rfl (fun ls hl => ?_)
    exact hw.elim (fun n19 hw => lb_X11_day_19 X (lb_X11_day_67 X) n19 σ 0 0 _ _ _ hw h (lv_sub hl [2, 1, 0] rfl))
  · have hw := hwf c_27
    refine j_iconst X dX11_day_13 ?_
    exact k_ir X rfl h hw dX11_day_14
end
section
variable {p : Program} {l : Launch} {e : Env} {s : State} {m : MethodId} {args : Array Value} {below : List Frame} {meth : Method} {c : Code} {D : va_G} {ct : Nat → ClassId} {ad : Nat → Nat → Nat} {L : List (Nat × Nat)} {φ : Nat → Nat → Nat → Bool} {N0 : Nat}
variable {Q : Int → St → Prop}
theorem pd_X11_feed : yX11_feed.cls ≠ "java/lang/invoke/MethodHandle" ∧ yX11_feed.cls ≠ "java/lang/invoke/VarHandle" ∧ (parseMethodDescriptor yX11_feed.desc).map (fun d => d.parameters.length) = some 5 := by decide +kernel
set_option maxRecDepth 100000 in
set_option maxHeartbeats 4000000 in
theorem c_X11_feed (l : Launch) (D : va_G) (ct : Nat → ClassId) (ad : Nat → Nat → Nat) (L : List (Nat × Nat)) (φ : Nat → Nat → Nat → Bool) (N0 : Nat) (σ : St) (x1 : Int) (x2 : Int) (x3 : Int) (x4 : Int) (x5 : Int) (Q : Int → St → Prop) (hw : wp_X11_feed σ x1 x2 x3 x4 x5 Q) : Met l yX11_feed (.code yX11_feed cX11_feed 6 (some .int) :: gw) ({ frames := 1, cells := 0, slots := 0, locals := 22 } : Room) (Pm D ct ad L φ N0 σ [.ref (ad 11 0), .int (iv x1), .int (iv x2), .int (iv x3), .int (iv x4), .int (iv x5)]) (Qi D ct ad L φ N0 Q) 0 0 (AA N0) := by
  refine m_of (by decide) (fun p e s m below meth c X hnm h => ?_)
  have hF := X.2.2.2.2.2.2.2.2.1
  have hl := lv_entry ([.ref (ad 11 0), .int (iv x1), .int (iv x2), .int (iv x3), .int (iv x4), .int (iv x5)]) (n := 6) (Nat.le_of_ble_eq_true rfl)
  rw [lg_entry_eq]
  generalize (lg_sl ([.ref (ad 11 0), .int (iv x1), .int (iv x2), .int (iv x3), .int (iv x4), .int (iv x5)]) ++ List.replicate (6 - (lg_sl ([.ref (ad 11 0), .int (iv x1), .int (iv x2), .int (iv x3), .int (iv x4), .int (iv x5)])).length) Slot.unset).toArray = ls at hl ⊢
  have hl : lv_has ls 6 [(0, .ref (ad 11 0)), (1, .int (iv x1)), (2, .int (iv x2)), (3, .int (iv x3)), (4, .int (iv x4)), (5, .int (iv x5))] := hl
  have h : Hs D ct ad L φ N0 s.heap σ s.heap [] := h
  unfold wp_X11_feed at hw
  refine lv_aload_n X.1 X.2.1 dX11_feed_0 rfl (lv_at hl 0 rfl) ?_
  refine r_getR (ci := 11) X inw_11 h (hF.1 11 rfl).1 rfl rfl 8 (by decide) kw_466 rfl ((hF.1 11 rfl).2 8) dX11_feed_1 ?_
  refine r_getN (ci := 9) X inw_9 h (hF.1 9 rfl).1 rfl rfl 1 (by decide) kw_259 rfl dX11_feed_4 ?_
  refine j_bipush X dX11_feed_7 (by decide) ?_
  refine j_iadd X dX11_feed_9 ?_
  refine j_sipush X dX11_feed_10 (by decide) ?_
  obtain ⟨g_1, hwt, hwf⟩ := hw
  refine j_cmp_le (tgt := 18) X g_1 ⟨by decide, by decide⟩ dX11_feed_13 (by decide) (fun c_7 => ?_) (fun c_7 => ?_)
  · have hw := hwt c_7
    refine lv_aload_n X.1 X.2.1 dX11_feed_18 rfl (lv_at hl 0 rfl) ?_
    refine r_getR (ci := 11) X inw_11 h (hF.1 11 rfl).1 rfl rfl 8 (by decide) kw_466 rfl ((hF.1 11 rfl).2 8) dX11_feed_19 ?_
    refine lv_iload_n X.1 X.2.1 dX11_feed_22 rfl (lv_at hl 1 rfl) ?_
    refine k_v h (r_V (C := RX9) (ci := 9) (As := [.int (iv x1)]) (rest := []) X h (c_X9_append l D ct ad L φ N0 σ x1 _ hw) rfl rfl ⟨Nat.le_of_ble_eq_true rfl, Nat.le_of_ble_eq_true rfl⟩ kw_937 kw_938 kw_939 kw_124 kw_940 ⟨rfl, pd_X9_append⟩ (hF.1 9 rfl).1 rfl rfl rfl hl.1 rfl (Nat.le_of_ble_eq_true rfl) ⟨Nat.le_of_ble_eq_true rfl, Nat.le_of_ble_eq_true rfl⟩ dX11_feed_23) (fun σ_2 H locs hw h => ?_)
    refine lv_aload_n X.1 X.2.1 dX11_feed_26 rfl (lv_at hl 0 rfl) ?_
    refine r_getR (ci := 11) X inw_11 h (hF.1 11 rfl).1 rfl rfl 8 (by decide) kw_466 rfl ((hF.1 11 rfl).2 8) dX11_feed_27 ?_
    refine lv_iload_n X.1 X.2.1 dX11_feed_30 rfl (lv_at hl 2 rfl) ?_
    refine k_v h (r_V (C := RX9) (ci := 9) (As := [.int (iv x2)]) (rest := []) X h (c_X9_append l D ct ad L φ N0 σ_2 x2 _ hw) rfl rfl ⟨Nat.le_of_ble_eq_true rfl, Nat.le_of_ble_eq_true rfl⟩ kw_937 kw_938 kw_939 kw_124 kw_940 ⟨rfl, pd_X9_append⟩ (hF.1 9 rfl).1 rfl rfl rfl hl.1 rfl (Nat.le_of_ble_eq_true rfl) ⟨Nat.le_of_ble_eq_true rfl, Nat.le_of_ble_eq_true rfl⟩ dX11_feed_31) (fun σ_3 H locs hw h => ?_)
    refine lv_aload_n X.1 X.2.1 dX11_feed_34 rfl (lv_at hl 0 rfl) ?_
    refine r_getR (ci := 11) X inw_11 h (hF.1 11 rfl).1 rfl rfl 8 (by decide) kw_466 rfl ((hF.1 11 rfl).2 8) dX11_feed_35 ?_
    refine lv_iload_n X.1 X.2.1 dX11_feed_38 rfl (lv_at hl 3 rfl) ?_
    refine k_v h (r_V (C := RX9) (ci := 9) (As := [.int (iv x3)]) (rest := []) X h (c_X9_append l D ct ad L φ N0 σ_3 x3 _ hw) rfl rfl ⟨Nat.le_of_ble_eq_true rfl, Nat.le_of_ble_eq_true rfl⟩ kw_937 kw_938 kw_939 kw_124 kw_940 ⟨rfl, pd_X9_append⟩ (hF.1 9 rfl).1 rfl rfl rfl hl.1 rfl (Nat.le_of_ble_eq_true rfl) ⟨Nat.le_of_ble_eq_true rfl, Nat.le_of_ble_eq_true rfl⟩ dX11_feed_39) (fun σ_4 H locs hw h => ?_)
    refine lv_aload_n X.1 X.2.1 dX11_feed_42 rfl (lv_at hl 0 rfl) ?_
    refine r_getR (ci := 11) X inw_11 h (hF.1 11 rfl).1 rfl rfl 8 (by decide) kw_466 rfl ((hF.1 11 rfl).2 8) dX11_feed_43 ?_
    refine lv_iload X.1 X.2.1 dX11_feed_46 (lv_at hl 4 rfl) ?_
    refine k_v h (r_V (C := RX9) (ci := 9) (As := [.int (iv x4)]) (rest := []) X h (c_X9_append l D ct ad L φ N0 σ_4 x4 _ hw) rfl rfl ⟨Nat.le_of_ble_eq_true rfl, Nat.le_of_ble_eq_true rfl⟩ kw_937 kw_938 kw_939 kw_124 kw_940 ⟨rfl, pd_X9_append⟩ (hF.1 9 rfl).1 rfl rfl rfl hl.1 rfl (Nat.le_of_ble_eq_true rfl) ⟨Nat.le_of_ble_eq_true rfl, Nat.le_of_ble_eq_true rfl⟩ dX11_feed_48) (fun σ_5 H locs hw h => ?_)
    refine lv_aload_n X.1 X.2.1 dX11_feed_51 rfl (lv_at hl 0 rfl) ?_
    refine r_getR (ci := 11) X inw_11 h (hF.1 11 rfl).1 rfl rfl 8 (by decide) kw_466 rfl ((hF.1 11 rfl).2 8) dX11_feed_52 ?_
    refine lv_iload X.1 X.2.1 dX11_feed_55 (lv_at hl 5 rfl) ?_
    refine k_v h (r_V (C := RX9) (ci := 9) (As := [.int (iv x5)]) (rest := []) X h (c_X9_append l D ct ad L φ N0 σ_5 x5 _ hw) rfl rfl ⟨Nat.le_of_ble_eq_true rfl, Nat.le_of_ble_eq_true rfl⟩ kw_937 kw_938 kw_939 kw_124 kw_940 ⟨rfl, pd_X9_append⟩ (hF.1 9 rfl).1 rfl rfl rfl hl.1 rfl (Nat.le_of_ble_eq_true rfl) ⟨Nat.le_of_ble_eq_true rfl, Nat.le_of_ble_eq_true rfl⟩ dX11_feed_57) (fun σ_6 H locs hw h => ?_)
    refine lv_aload_n X.1 X.2.1 dX11_feed_60 rfl (lv_at hl 0 rfl) ?_
    refine r_getR (ci := 11) X inw_11 h (hF.1 11 rfl).1 rfl rfl 8 (by decide) kw_466 rfl ((hF.1 11 rfl).2 8) dX11_feed_61 ?_
    refine r_getN (ci := 9) X inw_9 h (hF.1 9 rfl).1 rfl rfl 1 (by decide) kw_259 rfl dX11_feed_64 ?_
    exact k_ir X rfl h hw dX11_feed_67
  · have hw := hwf c_7
    refine j_iconst X dX11_feed_16 ?_
    exact k_ir X rfl h hw dX11_feed_17
end
section
variable {p : Program} {l : Launch} {e : Env} {s : State} {m : MethodId} {args : Array Value} {below : List Frame} {meth : Method} {c : Code} {D : va_G} {ct : Nat → ClassId} {ad : Nat → Nat → Nat} {L : List (Nat × Nat)} {φ : Nat → Nat → Nat → Bool} {N0 : Nat}
variable {Q : Int → St → Prop}
theorem pd_X11_end : yX11_end.cls ≠ "java/lang/invoke/MethodHandle" ∧ yX11_end.cls ≠ "java/lang/invoke/VarHandle" ∧ (parseMethodDescriptor yX11_end.desc).map (fun d => d.parameters.length) = some 1 := by decide +kernel
set_option maxRecDepth 100000 in
set_option maxHeartbeats 4000000 in
theorem c_X11_end (l : Launch) (D : va_G) (ct : Nat → ClassId) (ad : Nat → Nat → Nat) (L : List (Nat × Nat)) (φ : Nat → Nat → Nat → Bool) (N0 : Nat) (σ : St) (x1 : Int) (Q : Int → St → Prop) (hw : wp_X11_end σ x1 Q) : Met l yX11_end (.code yX11_end cX11_end 2 (some .int) :: gw) ({ frames := 1, cells := 0, slots := 0, locals := 22 } : Room) (Pm D ct ad L φ N0 σ [.ref (ad 11 0), .int (iv x1)]) (Qi D ct ad L φ N0 Q) 0 0 (AA N0) := by
  refine m_of (by decide) (fun p e s m below meth c X hnm h => ?_)
  have hF := X.2.2.2.2.2.2.2.2.1
  have hl := lv_entry ([.ref (ad 11 0), .int (iv x1)]) (n := 2) (Nat.le_of_ble_eq_true rfl)
  rw [lg_entry_eq]
  generalize (lg_sl ([.ref (ad 11 0), .int (iv x1)]) ++ List.replicate (2 - (lg_sl ([.ref (ad 11 0), .int (iv x1)])).length) Slot.unset).toArray = ls at hl ⊢
  have hl : lv_has ls 2 [(0, .ref (ad 11 0)), (1, .int (iv x1))] := hl
  have h : Hs D ct ad L φ N0 s.heap σ s.heap [] := h
  unfold wp_X11_end at hw
  refine lv_iload_n X.1 X.2.1 dX11_end_0 rfl (lv_at hl 1 rfl) ?_
  refine j_iconst X dX11_end_1 ?_
  refine lv_aload_n X.1 X.2.1 dX11_end_2 rfl (lv_at hl 0 rfl) ?_
  refine r_getR (ci := 11) X inw_11 h (hF.1 11 rfl).1 rfl rfl 8 (by decide) kw_466 rfl ((hF.1 11 rfl).2 8) dX11_end_3 ?_
  refine r_getN (ci := 9) X inw_9 h (hF.1 9 rfl).1 rfl rfl 1 (by decide) kw_259 rfl dX11_end_6 ?_
  refine k_i h (r_S (As := [.int (iv x1), .int (iv 0), .int (iv (σ 9 0 1))]) (rest := []) X h (c_X11_within l D ct ad L φ N0 σ x1 0 (σ 9 0 1) _ hw) rfl rfl ⟨Nat.le_of_ble_eq_true rfl, Nat.le_of_ble_eq_true rfl⟩ kw_526 kw_527 kw_120 kw_528 pd_X11_within rfl hl.1 rfl (Nat.le_of_ble_eq_true rfl) ⟨Nat.le_of_ble_eq_true rfl, Nat.le_of_ble_eq_true rfl⟩ dX11_end_9) (fun r_2 σ_1 H locs hw h => ?_)
  obtain ⟨g_3, hwt, hwf⟩ := hw
  refine j_if_ne (tgt := 17) X g_3 dX11_end_12 (by decide) (fun c_5 => ?_) (fun c_5 => ?_)
  · have hw := hwt c_5
    refine lv_aload_n X.1 X.2.1 dX11_end_17 rfl (lv_at hl 0 rfl) ?_
    refine r_getR (ci := 11) X inw_11 h (hF.1 11 rfl).1 rfl rfl 8 (by decide) kw_466 rfl ((hF.1 11 rfl).2 8) dX11_end_18 ?_
    refine lv_iload_n X.1 X.2.1 dX11_end_21 rfl (lv_at hl 1 rfl) ?_
    refine r_putN (ci := 9) X inw_9 tyX9 tyX9_ok nmX9 h (hF.1 9 rfl).1 rfl rfl 1 (by decide) kw_259 rfl rfl rfl (Nat.le_of_ble_eq_true rfl) rfl rfl dX11_end_22 (fun H locs h => ?_)
    obtain ⟨σ_4, eσ_4⟩ : ∃ z : St, z = st σ_1 9 0 1 x1 := ⟨_, rfl⟩
    rw [← eσ_4] at h
    have hw := hw σ_4 eσ_4
    refine lv_iload_n X.1 X.2.1 dX11_end_25 rfl (lv_at hl 1 rfl) ?_
    exact k_ir X rfl h hw dX11_end_26
  · have hw := hwf c_5
    refine j_iconst X dX11_end_15 ?_
    exact k_ir X rfl h hw dX11_end_16
end
section
variable {p : Program} {l : Launch} {e : Env} {s : State} {m : MethodId} {args : Array Value} {below : List Frame} {meth : Method} {c : Code} {D : va_G} {ct : Nat → ClassId} {ad : Nat → Nat → Nat} {L : List (Nat × Nat)} {φ : Nat → Nat → Nat → Bool} {N0 : Nat}
variable {Q : Int → St → Prop}
theorem pd_X11_law : yX11_law.cls ≠ "java/lang/invoke/MethodHandle" ∧ yX11_law.cls ≠ "java/lang/invoke/VarHandle" ∧ (parseMethodDescriptor yX11_law.desc).map (fun d => d.parameters.length) = some 1 := by decide +kernel
set_option maxRecDepth 100000 in
set_option maxHeartbeats 4000000 in
theorem c_X11_law (l : Launch) (D : va_G) (ct : Nat → ClassId) (ad : Nat → Nat → Nat) (L : List (Nat × Nat)) (φ : Nat → Nat → Nat → Bool) (N0 : Nat) (σ : St) (x1 : Int) (Q : Int → St → Prop) (hw : wp_X11_law σ x1 Q) : Met l yX11_law (.code yX11_law cX11_law 2 (some .int) :: gw) ({ frames := 10, cells := 0, slots := 0, locals := 223 } : Room) (Pm D ct ad L φ N0 σ [.ref (ad 11 0), .int (iv x1)]) (Qi D ct ad L φ N0 Q) 0 0 (AA N0) := by
  refine m_of (by decide) (fun p e s m below meth c X hnm h => ?_)
  have hF := X.2.2.2.2.2.2.2.2.1
  have hl := lv_entry ([.ref (ad 11 0), .int (iv x1)]) (n := 2) (Nat.le_of_ble_eq_true rfl)
  rw [lg_entry_eq]
  generalize (lg_sl ([.ref (ad 11 0), .int (iv x1)]) ++ List.replicate (2 - (lg_sl ([.ref (ad 11 0), .int (iv x1)])).length) Slot.unset).toArray = ls at hl ⊢
  have hl : lv_has ls 2 [(0, .ref (ad 11 0)), (1, .int (iv x1))] := hl
  have h : Hs D ct ad L φ N0 s.heap σ s.heap [] := h
  unfold wp_X11_law at hw
  refine lv_iload_n X.1 X.2.1 dX11_law_0 rfl (lv_at hl 1 rfl) ?_
  refine k_i h (r_S (As := [.int (iv x1)]) (rest := []) X h (c_X11_isDay l D ct ad L φ N0 σ x1 _ hw) rfl rfl ⟨Nat.le_of_ble_eq_true rfl, Nat.le_of_ble_eq_true rfl⟩ kw_564 kw_565 kw_120 kw_566 pd_X11_isDay rfl hl.1 rfl (Nat.le_of_ble_eq_true rfl) ⟨Nat.le_of_ble_eq_true rfl, Nat.le_of_ble_eq_true rfl⟩ dX11_law_1) (fun r_2 σ_1 H locs hw h => ?_)
  obtain ⟨g_3, hwt, hwf⟩ := hw
  refine j_if_eq (tgt := 19) X g_3 dX11_law_4 (by decide) (fun c_8 => ?_) (fun c_8 => ?_)
  · have hw := hwt c_8
    refine j_iconst X dX11_law_19 ?_
    exact k_ir X rfl h hw dX11_law_20
  · have hw := hwf c_8
    refine lv_aload_n X.1 X.2.1 dX11_law_7 rfl (lv_at hl 0 rfl) ?_
    refine r_getR (ci := 11) X inw_11 h (hF.1 11 rfl).1 rfl rfl 9 (by decide) kw_467 rfl ((hF.1 11 rfl).2 9) dX11_law_8 ?_
    refine r_getN (ci := 8) X inw_8 h (hF.1 8 rfl).1 rfl rfl 10 (by decide) kw_293 rfl dX11_law_11 ?_
    refine j_bipush X dX11_law_14 (by decide) ?_
    obtain ⟨g_4, hwt, hwf⟩ := hw
    refine j_cmp_lt (tgt := 21) X g_4 ⟨by decide, by decide⟩ dX11_law_16 (by decide) (fun c_7 => ?_) (fun c_7 => ?_)
    · have hw := hwt c_7
      refine lv_aload_n X.1 X.2.1 dX11_law_21 rfl (lv_at hl 0 rfl) ?_
      refine r_getR (ci := 11) X inw_11 h (hF.1 11 rfl).1 rfl rfl 9 (by decide) kw_467 rfl ((hF.1 11 rfl).2 9) dX11_law_22 ?_
      refine lv_iload_n X.1 X.2.1 dX11_law_25 rfl (lv_at hl 1 rfl) ?_
      refine lv_aload_n X.1 X.2.1 dX11_law_26 rfl (lv_at hl 0 rfl) ?_
      refine r_getR (ci := 11) X inw_11 h (hF.1 11 rfl).1 rfl rfl 8 (by decide) kw_466 rfl ((hF.1 11 rfl).2 8) dX11_law_27 ?_
      refine k_i h (r_V (C := RX8) (ci := 8) (As := [.int (iv x1), .ref (ad 9 0)]) (rest := []) X h (c_X8_tell l D ct ad L φ N0 σ_1 x1 _ hw) rfl rfl ⟨Nat.le_of_ble_eq_true rfl, Nat.le_of_ble_eq_true rfl⟩ kw_949 kw_950 kw_951 kw_125 kw_952 ⟨rfl, pd_X8_tell⟩ (hF.1 8 rfl).1 rfl rfl rfl hl.1 rfl (Nat.le_of_ble_eq_true rfl) ⟨Nat.le_of_ble_eq_true rfl, Nat.le_of_ble_eq_true rfl⟩ dX11_law_30) (fun r_6 σ_5 H locs hw h => ?_)
      exact k_ir X rfl h hw dX11_law_33
    · have hw := hwf c_7
      refine j_iconst X dX11_law_19 ?_
      exact k_ir X rfl h hw dX11_law_20
end
section
variable {p : Program} {l : Launch} {e : Env} {s : State} {m : MethodId} {args : Array Value} {below : List Frame} {meth : Method} {c : Code} {D : va_G} {ct : Nat → ClassId} {ad : Nat → Nat → Nat} {L : List (Nat × Nat)} {φ : Nat → Nat → Nat → Bool} {N0 : Nat}
variable {Q : Int → St → Prop}
theorem pd_X11_place : yX11_place.cls ≠ "java/lang/invoke/MethodHandle" ∧ yX11_place.cls ≠ "java/lang/invoke/VarHandle" ∧ (parseMethodDescriptor yX11_place.desc).map (fun d => d.parameters.length) = some 0 := by decide +kernel
set_option maxRecDepth 100000 in
set_option maxHeartbeats 4000000 in
theorem c_X11_place (l : Launch) (D : va_G) (ct : Nat → ClassId) (ad : Nat → Nat → Nat) (L : List (Nat × Nat)) (φ : Nat → Nat → Nat → Bool) (N0 : Nat) (σ : St) (Q : Int → St → Prop) (hw : wp_X11_place σ Q) : Met l yX11_place (.code yX11_place cX11_place 1 (some .int) :: gw) ({ frames := 0, cells := 0, slots := 0, locals := 0 } : Room) (Pm D ct ad L φ N0 σ [.ref (ad 11 0)]) (Qi D ct ad L φ N0 Q) 0 0 (AA N0) := by
  refine m_of (by decide) (fun p e s m below meth c X hnm h => ?_)
  have hF := X.2.2.2.2.2.2.2.2.1
  have hl := lv_entry ([.ref (ad 11 0)]) (n := 1) (Nat.le_of_ble_eq_true rfl)
  rw [lg_entry_eq]
  generalize (lg_sl ([.ref (ad 11 0)]) ++ List.replicate (1 - (lg_sl ([.ref (ad 11 0)])).length) Slot.unset).toArray = ls at hl ⊢
  have hl : lv_has ls 1 [(0, .ref (ad 11 0))] := hl
  have h : Hs D ct ad L φ N0 s.heap σ s.heap [] := h
  unfold wp_X11_place at hw
  refine lv_aload_n X.1 X.2.1 dX11_place_0 rfl (lv_at hl 0 rfl) ?_
  refine r_getR (ci := 11) X inw_11 h (hF.1 11 rfl).1 rfl rfl 9 (by decide) kw_467 rfl ((hF.1 11 rfl).2 9) dX11_place_1 ?_
  refine r_getN (ci := 8) X inw_8 h (hF.1 8 rfl).1 rfl rfl 12 (by decide) kw_296 rfl dX11_place_4 ?_
  exact k_ir X rfl h hw dX11_place_7
end
section
variable {p : Program} {l : Launch} {e : Env} {s : State} {m : MethodId} {args : Array Value} {below : List Frame} {meth : Method} {c : Code} {D : va_G} {ct : Nat → ClassId} {ad : Nat → Nat → Nat} {L : List (Nat × Nat)} {φ : Nat → Nat → Nat → Bool} {N0 : Nat}
variable {Q : Int → St → Prop}
theorem pd_X11_why : yX11_why.cls ≠ "java/lang/invoke/MethodHandle" ∧ yX11_why.cls ≠ "java/lang/invoke/VarHandle" ∧ (parseMethodDescriptor yX11_why.desc).map (fun d => d.parameters.length) = some 4 := by decide +kernel
set_option maxRecDepth 100000 in
set_option maxHeartbeats 4000000 in
theorem c_X11_why (l : Launch) (D : va_G) (ct : Nat → ClassId) (ad : Nat → Nat → Nat) (L : List (Nat × Nat)) (φ : Nat → Nat → Nat → Bool) (N0 : Nat) (σ : St) (x1 : Int) (x2 : Int) (x3 : Int) (x4 : Int) (Q : Int → St → Prop) (hw : wp_X11_why σ x1 x2 x3 x4 Q) : Met l yX11_why (.code yX11_why cX11_why 5 (some .int) :: gw) ({ frames := 5, cells := 0, slots := 0, locals := 108 } : Room) (Pm D ct ad L φ N0 σ [.ref (ad 11 0), .int (iv x1), .int (iv x2), .int (iv x3), .int (iv x4)]) (Qi D ct ad L φ N0 Q) 0 0 (AA N0) := by
  refine m_of (by decide) (fun p e s m below meth c X hnm h => ?_)
  have hF := X.2.2.2.2.2.2.2.2.1
  have hl := lv_entry ([.ref (ad 11 0), .int (iv x1), .int (iv x2), .int (iv x3), .int (iv x4)]) (n := 5) (Nat.le_of_ble_eq_true rfl)
  rw [lg_entry_eq]
  generalize (lg_sl ([.ref (ad 11 0), .int (iv x1), .int (iv x2), .int (iv x3), .int (iv x4)]) ++ List.replicate (5 - (lg_sl ([.ref (ad 11 0), .int (iv x1), .int (iv x2), .int (iv x3), .int (iv x4)])).length) Slot.unset).toArray = ls at hl ⊢
  have hl : lv_has ls 5 [(0, .ref (ad 11 0)), (1, .int (iv x1)), (2, .int (iv x2)), (3, .int (iv x3)), (4, .int (iv x4))] := hl
  have h : Hs D ct ad L φ N0 s.heap σ s.heap [] := h
  unfold wp_X11_why at hw
  refine lv_aload_n X.1 X.2.1 dX11_why_0 rfl (lv_at hl 0 rfl) ?_
  refine lv_iload_n X.1 X.2.1 dX11_why_1 rfl (lv_at hl 1 rfl) ?_
  refine k_o h (r_V (C := RX11) (ci := 11) (As := [.int (iv x1)]) (rest := []) X h (c_X11_crewAt l D ct ad L φ N0 σ x1 _ hw) rfl rfl ⟨Nat.le_of_ble_eq_true rfl, Nat.le_of_ble_eq_true rfl⟩ kw_645 kw_647 kw_4 kw_120 kw_648 ⟨rfl, pd_X11_crewAt⟩ (hF.1 11 rfl).1 rfl rfl rfl hl.1 rfl (Nat.le_of_ble_eq_true rfl) ⟨Nat.le_of_ble_eq_true rfl, Nat.le_of_ble_eq_true rfl⟩ dX11_why_2) (fun o_14 σ_1 H locs hw h => ?_)
  cases o_14 with
  | none =>
    refine lv_ifnullN (tgt := 24) X.1 X.2.1 dX11_why_5 (by decide) ?_
    refine j_bipush X dX11_why_24 (by decide) ?_
    exact k_ir X rfl h hw dX11_why_26
  | some j_2 =>
    refine lv_ifnull X.1 X.2.1 dX11_why_5 ?_
    refine lv_iload_n X.1 X.2.1 dX11_why_8 rfl (lv_at hl 2 rfl) ?_
    refine k_i h (r_S (As := [.int (iv x2)]) (rest := []) X h (c_X11_isCell l D ct ad L φ N0 σ_1 x2 _ hw) rfl rfl ⟨Nat.le_of_ble_eq_true rfl, Nat.le_of_ble_eq_true rfl⟩ kw_523 kw_524 kw_120 kw_525 pd_X11_isCell rfl hl.1 rfl (Nat.le_of_ble_eq_true rfl) ⟨Nat.le_of_ble_eq_true rfl, Nat.le_of_ble_eq_true rfl⟩ dX11_why_9) (fun r_4 σ_3 H locs hw h => ?_)
    obtain ⟨g_5, hwt, hwf⟩ := hw
    refine j_if_eq (tgt := 24) X g_5 dX11_why_12 (by decide) (fun c_13 => ?_) (fun c_13 => ?_)
    · have hw := hwt c_13
      refine j_bipush X dX11_why_24 (by decide) ?_
      exact k_ir X rfl h hw dX11_why_26
    · have hw := hwf c_13
      refine lv_iload_n X.1 X.2.1 dX11_why_15 rfl (lv_at hl 3 rfl) ?_
      refine lv_iload X.1 X.2.1 dX11_why_16 (lv_at hl 4 rfl) ?_
      refine k_i h (r_S (As := [.int (iv x3), .int (iv x4)]) (rest := []) X h (c_X11_isStem l D ct ad L φ N0 σ_3 x3 x4 _ hw) rfl rfl ⟨Nat.le_of_ble_eq_true rfl, Nat.le_of_ble_eq_true rfl⟩ kw_533 kw_534 kw_120 kw_535 pd_X11_isStem rfl hl.1 rfl (Nat.le_of_ble_eq_true rfl) ⟨Nat.le_of_ble_eq_true rfl, Nat.le_of_ble_eq_true rfl⟩ dX11_why_18) (fun r_7 σ_6 H locs hw h => ?_)
      obtain ⟨g_8, hwt, hwf⟩ := hw
      refine j_if_ne (tgt := 27) X g_8 dX11_why_21 (by decide) (fun c_12 => ?_) (fun c_12 => ?_)
      · have hw := hwt c_12
        refine lv_aload_n X.1 X.2.1 dX11_why_27 rfl (lv_at hl 0 rfl) ?_
        refine lv_iload_n X.1 X.2.1 dX11_why_28 rfl (lv_at hl 1 rfl) ?_
        refine lv_iload_n X.1 X.2.1 dX11_why_29 rfl (lv_at hl 2 rfl) ?_
        refine lv_iload_n X.1 X.2.1 dX11_why_30 rfl (lv_at hl 3 rfl) ?_
        refine lv_iload X.1 X.2.1 dX11_why_31 (lv_at hl 4 rfl) ?_
        refine k_v h (r_V (C := RX11) (ci := 11) (As := [.int (iv x1), .int (iv x2), .int (iv x3), .int (iv x4)]) (rest := []) X h (c_X11_askOfCut l D ct ad L φ N0 σ_6 x1 x2 x3 x4 _ hw) rfl rfl ⟨Nat.le_of_ble_eq_true rfl, Nat.le_of_ble_eq_true rfl⟩ kw_649 kw_651 kw_5 kw_120 kw_652 ⟨rfl, pd_X11_askOfCut⟩ (hF.1 11 rfl).1 rfl rfl rfl hl.1 rfl (Nat.le_of_ble_eq_true rfl) ⟨Nat.le_of_ble_eq_true rfl, Nat.le_of_ble_eq_true rfl⟩ dX11_why_33) (fun σ_9 H locs hw h => ?_)
        refine lv_aload_n X.1 X.2.1 dX11_why_36 rfl (lv_at hl 0 rfl) ?_
        refine r_getR (ci := 11) X inw_11 h (hF.1 11 rfl).1 rfl rfl 9 (by decide) kw_467 rfl ((hF.1 11 rfl).2 9) dX11_why_37 ?_
        refine lv_aload_n X.1 X.2.1 dX11_why_40 rfl (lv_at hl 0 rfl) ?_
        refine r_getR (ci := 11) X inw_11 h (hF.1 11 rfl).1 rfl rfl 0 (by decide) kw_458 rfl ((hF.1 11 rfl).2 0) dX11_why_41 ?_
        refine r_getN (ci := 7) X inw_7 h (hF.1 7 rfl).1 rfl rfl 3 (by decide) kw_164 rfl dX11_why_44 ?_
        refine j_iconst X dX11_why_47 ?_
        refine k_i h (r_V (C := RX8) (ci := 8) (As := [.int (iv (σ_9 7 0 3)), .int (iv 0)]) (rest := []) X h (c_X8_barring l D ct ad L φ N0 σ_9 (σ_9 7 0 3) 0 _ hw) rfl rfl ⟨Nat.le_of_ble_eq_true rfl, Nat.le_of_ble_eq_true rfl⟩ kw_670 kw_671 kw_672 kw_125 kw_673 ⟨rfl, pd_X8_barring⟩ (hF.1 8 rfl).1 rfl rfl rfl hl.1 rfl (Nat.le_of_ble_eq_true rfl) ⟨Nat.le_of_ble_eq_true rfl, Nat.le_of_ble_eq_true rfl⟩ dX11_why_48) (fun r_11 σ_10 H locs hw h => ?_)
        exact k_ir X rfl h hw dX11_why_51
      · have hw := hwf c_12
        refine j_bipush X dX11_why_24 (by decide) ?_
        exact k_ir X rfl h hw dX11_why_26
end
section
variable {p : Program} {l : Launch} {e : Env} {s : State} {m : MethodId} {args : Array Value} {below : List Frame} {meth : Method} {c : Code} {D : va_G} {ct : Nat → ClassId} {ad : Nat → Nat → Nat} {L : List (Nat × Nat)} {φ : Nat → Nat → Nat → Bool} {N0 : Nat}
variable {Q : Int → St → Prop}
theorem pd_X11_whyWay : yX11_whyWay.cls ≠ "java/lang/invoke/MethodHandle" ∧ yX11_whyWay.cls ≠ "java/lang/invoke/VarHandle" ∧ (parseMethodDescriptor yX11_whyWay.desc).map (fun d => d.parameters.length) = some 1 := by decide +kernel
set_option maxRecDepth 100000 in
set_option maxHeartbeats 4000000 in
theorem c_X11_whyWay (l : Launch) (D : va_G) (ct : Nat → ClassId) (ad : Nat → Nat → Nat) (L : List (Nat × Nat)) (φ : Nat → Nat → Nat → Bool) (N0 : Nat) (σ : St) (x1 : Int) (Q : Int → St → Prop) (hw : wp_X11_whyWay σ x1 Q) : Met l yX11_whyWay (.code yX11_whyWay cX11_whyWay 3 (some .int) :: gw) ({ frames := 5, cells := 0, slots := 0, locals := 105 } : Room) (Pm D ct ad L φ N0 σ [.ref (ad 11 0), .int (iv x1)]) (Qi D ct ad L φ N0 Q) 0 0 (AA N0) := by
  refine m_of (by decide) (fun p e s m below meth c X hnm h => ?_)
  have hF := X.2.2.2.2.2.2.2.2.1
  have hl := lv_entry ([.ref (ad 11 0), .int (iv x1)]) (n := 3) (Nat.le_of_ble_eq_true rfl)
  rw [lg_entry_eq]
  generalize (lg_sl ([.ref (ad 11 0), .int (iv x1)]) ++ List.replicate (3 - (lg_sl ([.ref (ad 11 0), .int (iv x1)])).length) Slot.unset).toArray = ls at hl ⊢
  have hl : lv_has ls 3 [(0, .ref (ad 11 0)), (1, .int (iv x1))] := hl
  have h : Hs D ct ad L φ N0 s.heap σ s.heap [] := h
  unfold wp_X11_whyWay at hw
  refine lv_aload_n X.1 X.2.1 dX11_whyWay_0 rfl (lv_at hl 0 rfl) ?_
  refine lv_iload_n X.1 X.2.1 dX11_whyWay_1 rfl (lv_at hl 1 rfl) ?_
  refine k_o h (r_V (C := RX11) (ci := 11) (As := [.int (iv x1)]) (rest := []) X h (c_X11_wayAt l D ct ad L φ N0 σ x1 _ hw) rfl rfl ⟨Nat.le_of_ble_eq_true rfl, Nat.le_of_ble_eq_true rfl⟩ kw_847 kw_849 kw_13 kw_120 kw_850 ⟨rfl, pd_X11_wayAt⟩ (hF.1 11 rfl).1 rfl rfl rfl hl.1 rfl (Nat.le_of_ble_eq_true rfl) ⟨Nat.le_of_ble_eq_true rfl, Nat.le_of_ble_eq_true rfl⟩ dX11_whyWay_2) (fun o_6 σ_1 H locs hw h => ?_)
  cases o_6 with
  | none =>
    refine lv_astore_nN (lv' := [(2, .null), (0, .ref (ad 11 0)), (1, .int (iv x1))]) X.1 X.2.1 dX11_whyWay_5 rfl hl (by decide) rfl (fun ls hl => ?_)
    refine lv_aload_nN X.1 X.2.1 dX11_whyWay_6 rfl (lv_at hl 0 rfl) ?_
    refine lv_ifnonnullN X.1 X.2.1 dX11_whyWay_7 ?_
    refine j_bipush X dX11_whyWay_10 (by decide) ?_
    exact k_ir X rfl h hw dX11_whyWay_12
  | some j_2 =>
    refine lv_astore_n (lv' := [(2, .ref (ad 10 j_2)), (0, .ref (ad 11 0)), (1, .int (iv x1))]) X.1 X.2.1 dX11_whyWay_5 rfl hl (by decide) rfl (fun ls hl => ?_)
    refine lv_aload_n X.1 X.2.1 dX11_whyWay_6 rfl (lv_at hl 0 rfl) ?_
    refine lv_ifnonnull (tgt := 13) X.1 X.2.1 dX11_whyWay_7 (by decide) ?_
    refine lv_aload_n X.1 X.2.1 dX11_whyWay_13 rfl (lv_at hl 1 rfl) ?_
    refine lv_aload_n X.1 X.2.1 dX11_whyWay_14 rfl (lv_at hl 0 rfl) ?_
    refine k_v h (r_V (C := RX11) (ci := 11) (As := [.ref (ad 10 j_2)]) (rest := []) X h (c_X11_askOfWay l D ct ad L φ N0 σ_1 j_2 _ hw) rfl rfl ⟨Nat.le_of_ble_eq_true rfl, Nat.le_of_ble_eq_true rfl⟩ kw_863 kw_865 kw_15 kw_120 kw_866 ⟨rfl, pd_X11_askOfWay⟩ (hF.1 11 rfl).1 rfl rfl rfl hl.1 rfl (Nat.le_of_ble_eq_true rfl) ⟨Nat.le_of_ble_eq_true rfl, Nat.le_of_ble_eq_true rfl⟩ dX11_whyWay_15) (fun σ_3 H locs hw h => ?_)
    refine lv_aload_n X.1 X.2.1 dX11_whyWay_18 rfl (lv_at hl 1 rfl) ?_
    refine r_getR (ci := 11) X inw_11 h (hF.1 11 rfl).1 rfl rfl 9 (by decide) kw_467 rfl ((hF.1 11 rfl).2 9) dX11_whyWay_19 ?_
    refine lv_aload_n X.1 X.2.1 dX11_whyWay_22 rfl (lv_at hl 1 rfl) ?_
    refine r_getR (ci := 11) X inw_11 h (hF.1 11 rfl).1 rfl rfl 0 (by decide) kw_458 rfl ((hF.1 11 rfl).2 0) dX11_whyWay_23 ?_
    refine r_getN (ci := 7) X inw_7 h (hF.1 7 rfl).1 rfl rfl 3 (by decide) kw_164 rfl dX11_whyWay_26 ?_
    refine j_iconst X dX11_whyWay_29 ?_
    refine k_i h (r_V (C := RX8) (ci := 8) (As := [.int (iv (σ_3 7 0 3)), .int (iv 1)]) (rest := []) X h (c_X8_barring l D ct ad L φ N0 σ_3 (σ_3 7 0 3) 1 _ hw) rfl rfl ⟨Nat.le_of_ble_eq_true rfl, Nat.le_of_ble_eq_true rfl⟩ kw_670 kw_671 kw_672 kw_125 kw_673 ⟨rfl, pd_X8_barring⟩ (hF.1 8 rfl).1 rfl rfl rfl hl.1 rfl (Nat.le_of_ble_eq_true rfl) ⟨Nat.le_of_ble_eq_true rfl, Nat.le_of_ble_eq_true rfl⟩ dX11_whyWay_30) (fun r_5 σ_4 H locs hw h => ?_)
    exact k_ir X rfl h hw dX11_whyWay_33
end
section
variable {p : Program} {l : Launch} {e : Env} {s : State} {m : MethodId} {args : Array Value} {below : List Frame} {meth : Method} {c : Code} {D : va_G} {ct : Nat → ClassId} {ad : Nat → Nat → Nat} {L : List (Nat × Nat)} {φ : Nat → Nat → Nat → Bool} {N0 : Nat}
variable {Q : Int → St → Prop}
theorem pd_X11_due : yX11_due.cls ≠ "java/lang/invoke/MethodHandle" ∧ yX11_due.cls ≠ "java/lang/invoke/VarHandle" ∧ (parseMethodDescriptor yX11_due.desc).map (fun d => d.parameters.length) = some 2 := by decide +kernel
set_option maxRecDepth 100000 in
set_option maxHeartbeats 4000000 in
theorem c_X11_due (l : Launch) (D : va_G) (ct : Nat → ClassId) (ad : Nat → Nat → Nat) (L : List (Nat × Nat)) (φ : Nat → Nat → Nat → Bool) (N0 : Nat) (σ : St) (x1 : Int) (x2 : Int) (Q : Int → St → Prop) (hw : wp_X11_due σ x1 x2 Q) : Met l yX11_due (.code yX11_due cX11_due 3 (some .int) :: gw) ({ frames := 5, cells := 0, slots := 0, locals := 113 } : Room) (Pm D ct ad L φ N0 σ [.ref (ad 11 0), .int (iv x1), .int (iv x2)]) (Qi D ct ad L φ N0 Q) 0 0 (AA N0) := by
  refine m_of (by decide) (fun p e s m below meth c X hnm h => ?_)
  have hF := X.2.2.2.2.2.2.2.2.1
  have hl := lv_entry ([.ref (ad 11 0), .int (iv x1), .int (iv x2)]) (n := 3) (Nat.le_of_ble_eq_true rfl)
  rw [lg_entry_eq]
  generalize (lg_sl ([.ref (ad 11 0), .int (iv x1), .int (iv x2)]) ++ List.replicate (3 - (lg_sl ([.ref (ad 11 0), .int (iv x1), .int (iv x2)])).length) Slot.unset).toArray = ls at hl ⊢
  have hl : lv_has ls 3 [(0, .ref (ad 11 0)), (1, .int (iv x1)), (2, .int (iv x2))] := hl
  have h : Hs D ct ad L φ N0 s.heap σ s.heap [] := h
  unfold wp_X11_due at hw
  refine lv_aload_n X.1 X.2.1 dX11_due_0 rfl (lv_at hl 0 rfl) ?_
  refine lv_iload_n X.1 X.2.1 dX11_due_1 rfl (lv_at hl 1 rfl) ?_
  refine k_o h (r_V (C := RX11) (ci := 11) (As := [.int (iv x1)]) (rest := []) X h (c_X11_crewAt l D ct ad L φ N0 σ x1 _ hw) rfl rfl ⟨Nat.le_of_ble_eq_true rfl, Nat.le_of_ble_eq_true rfl⟩ kw_645 kw_647 kw_4 kw_120 kw_648 ⟨rfl, pd_X11_crewAt⟩ (hF.1 11 rfl).1 rfl rfl rfl hl.1 rfl (Nat.le_of_ble_eq_true rfl) ⟨Nat.le_of_ble_eq_true rfl, Nat.le_of_ble_eq_true rfl⟩ dX11_due_2) (fun o_9 σ_1 H locs hw h => ?_)
  cases o_9 with
  | none =>
    refine lv_ifnullN (tgt := 17) X.1 X.2.1 dX11_due_5 (by decide) ?_
    refine j_iconst X dX11_due_17 ?_
    exact k_ir X rfl h hw dX11_due_18
  | some j_2 =>
    refine lv_ifnull X.1 X.2.1 dX11_due_5 ?_
    refine lv_iload_n X.1 X.2.1 dX11_due_8 rfl (lv_at hl 2 rfl) ?_
    refine j_iconst X dX11_due_9 ?_
    refine j_iconst X dX11_due_10 ?_
    refine k_i h (r_S (As := [.int (iv x2), .int (iv 0), .int (iv 2)]) (rest := []) X h (c_X11_within l D ct ad L φ N0 σ_1 x2 0 2 _ hw) rfl rfl ⟨Nat.le_of_ble_eq_true rfl, Nat.le_of_ble_eq_true rfl⟩ kw_526 kw_527 kw_120 kw_528 pd_X11_within rfl hl.1 rfl (Nat.le_of_ble_eq_true rfl) ⟨Nat.le_of_ble_eq_true rfl, Nat.le_of_ble_eq_true rfl⟩ dX11_due_11) (fun r_4 σ_3 H locs hw h => ?_)
    obtain ⟨g_5, hwt, hwf⟩ := hw
    refine j_if_ne (tgt := 19) X g_5 dX11_due_14 (by decide) (fun c_8 => ?_) (fun c_8 => ?_)
    · have hw := hwt c_8
      refine lv_aload_n X.1 X.2.1 dX11_due_19 rfl (lv_at hl 0 rfl) ?_
      refine lv_iload_n X.1 X.2.1 dX11_due_20 rfl (lv_at hl 1 rfl) ?_
      refine j_iconst X dX11_due_21 ?_
      refine lv_iload_n X.1 X.2.1 dX11_due_22 rfl (lv_at hl 2 rfl) ?_
      refine j_iadd X dX11_due_23 ?_
      refine k_i h (r_V (C := RX11) (ci := 11) (As := [.int (iv x1), .int (iv (1 + x2))]) (rest := []) X h (c_X11_numberFor l D ct ad L φ N0 σ_3 x1 (1 + x2) _ hw) rfl rfl ⟨Nat.le_of_ble_eq_true rfl, Nat.le_of_ble_eq_true rfl⟩ kw_909 kw_911 kw_21 kw_120 kw_912 ⟨rfl, pd_X11_numberFor⟩ (hF.1 11 rfl).1 rfl rfl rfl hl.1 rfl (Nat.le_of_ble_eq_true rfl) ⟨Nat.le_of_ble_eq_true rfl, Nat.le_of_ble_eq_true rfl⟩ dX11_due_24) (fun r_7 σ_6 H locs hw h => ?_)
      exact k_ir X rfl h hw dX11_due_27
    · have hw := hwf c_8
      refine j_iconst X dX11_due_17 ?_
      exact k_ir X rfl h hw dX11_due_18
end
section
variable {p : Program} {l : Launch} {e : Env} {s : State} {m : MethodId} {args : Array Value} {below : List Frame} {meth : Method} {c : Code} {D : va_G} {ct : Nat → ClassId} {ad : Nat → Nat → Nat} {L : List (Nat × Nat)} {φ : Nat → Nat → Nat → Bool} {N0 : Nat}
variable {Q : Int → St → Prop}
theorem pd_X11_shop : yX11_shop.cls ≠ "java/lang/invoke/MethodHandle" ∧ yX11_shop.cls ≠ "java/lang/invoke/VarHandle" ∧ (parseMethodDescriptor yX11_shop.desc).map (fun d => d.parameters.length) = some 2 := by decide +kernel
set_option maxRecDepth 100000 in
set_option maxHeartbeats 4000000 in
theorem c_X11_shop (l : Launch) (D : va_G) (ct : Nat → ClassId) (ad : Nat → Nat → Nat) (L : List (Nat × Nat)) (φ : Nat → Nat → Nat → Bool) (N0 : Nat) (σ : St) (x1 : Int) (x2 : Int) (Q : Int → St → Prop) (hw : wp_X11_shop σ x1 x2 Q) : Met l yX11_shop (.code yX11_shop cX11_shop 4 (some .int) :: gw) ({ frames := 5, cells := 0, slots := 0, locals := 113 } : Room) (Pm D ct ad L φ N0 σ [.ref (ad 11 0), .int (iv x1), .int (iv x2)]) (Qi D ct ad L φ N0 Q) 0 0 (AA N0) := by
  refine m_of (by decide) (fun p e s m below meth c X hnm h => ?_)
  have hF := X.2.2.2.2.2.2.2.2.1
  have hl := lv_entry ([.ref (ad 11 0), .int (iv x1), .int (iv x2)]) (n := 4) (Nat.le_of_ble_eq_true rfl)
  rw [lg_entry_eq]
  generalize (lg_sl ([.ref (ad 11 0), .int (iv x1), .int (iv x2)]) ++ List.replicate (4 - (lg_sl ([.ref (ad 11 0), .int (iv x1), .int (iv x2)])).length) Slot.unset).toArray = ls at hl ⊢
  have hl : lv_has ls 4 [(0, .ref (ad 11 0)), (1, .int (iv x1)), (2, .int (iv x2))] := hl
  have h : Hs D ct ad L φ N0 s.heap σ s.heap [] := h
  unfold wp_X11_shop at hw
  refine lv_aload_n X.1 X.2.1 dX11_shop_0 rfl (lv_at hl 0 rfl) ?_
  refine lv_iload_n X.1 X.2.1 dX11_shop_1 rfl (lv_at hl 1 rfl) ?_
  refine k_o h (r_V (C := RX11) (ci := 11) (As := [.int (iv x1)]) (rest := []) X h (c_X11_crewAt l D ct ad L φ N0 σ x1 _ hw) rfl rfl ⟨Nat.le_of_ble_eq_true rfl, Nat.le_of_ble_eq_true rfl⟩ kw_645 kw_647 kw_4 kw_120 kw_648 ⟨rfl, pd_X11_crewAt⟩ (hF.1 11 rfl).1 rfl rfl rfl hl.1 rfl (Nat.le_of_ble_eq_true rfl) ⟨Nat.le_of_ble_eq_true rfl, Nat.le_of_ble_eq_true rfl⟩ dX11_shop_2) (fun o_20 σ_1 H locs hw h => ?_)
  cases o_20 with
  | none =>
    refine lv_astore_nN (lv' := [(3, .null), (0, .ref (ad 11 0)), (1, .int (iv x1)), (2, .int (iv x2))]) X.1 X.2.1 dX11_shop_5 rfl hl (by decide) rfl (fun ls hl => ?_)
    refine lv_aload_nN X.1 X.2.1 dX11_shop_6 rfl (lv_at hl 0 rfl) ?_
    refine lv_ifnullN (tgt := 28) X.1 X.2.1 dX11_shop_7 (by decide) ?_
    refine j_iconst X dX11_shop_28 ?_
    exact k_ir X rfl h hw dX11_shop_29
  | some j_2 =>
    refine lv_astore_n (lv' := [(3, .ref (ad 1 j_2)), (0, .ref (ad 11 0)), (1, .int (iv x1)), (2, .int (iv x2))]) X.1 X.2.1 dX11_shop_5 rfl hl (by decide) rfl (fun ls hl => ?_)
    refine lv_aload_n X.1 X.2.1 dX11_shop_6 rfl (lv_at hl 0 rfl) ?_
    refine lv_ifnull X.1 X.2.1 dX11_shop_7 ?_
    refine lv_aload_n X.1 X.2.1 dX11_shop_10 rfl (lv_at hl 0 rfl) ?_
    obtain ⟨g_3, hw⟩ := hw
    refine r_getN (ci := 1) X inw_1 h (h.2.2.2.2.1 j_2 g_3) rfl rfl 4 (by decide) kw_1197 rfl dX11_shop_11 ?_
    obtain ⟨g_4, hwt, hwf⟩ := hw
    refine j_if_ne (tgt := 28) X g_4 dX11_shop_14 (by decide) (fun c_19 => ?_) (fun c_19 => ?_)
    · have hw := hwt c_19
      refine j_iconst X dX11_shop_28 ?_
      exact k_ir X rfl h hw dX11_shop_29
    · have hw := hwf c_19
      refine lv_iload_n X.1 X.2.1 dX11_shop_17 rfl (lv_at hl 3 rfl) ?_
      refine j_iconst X dX11_shop_18 ?_
      refine j_sipush X dX11_shop_19 (by decide) ?_
      refine k_i h (r_S (As := [.int (iv x2), .int (iv 1), .int (iv 999)]) (rest := []) X h (c_X11_within l D ct ad L φ N0 σ_1 x2 1 999 _ hw) rfl rfl ⟨Nat.le_of_ble_eq_true rfl, Nat.le_of_ble_eq_true rfl⟩ kw_526 kw_527 kw_120 kw_528 pd_X11_within rfl hl.1 rfl (Nat.le_of_ble_eq_true rfl) ⟨Nat.le_of_ble_eq_true rfl, Nat.le_of_ble_eq_true rfl⟩ dX11_shop_22) (fun r_6 σ_5 H locs hw h => ?_)
      obtain ⟨g_7, hwt, hwf⟩ := hw
      refine j_if_ne (tgt := 30) X g_7 dX11_shop_25 (by decide) (fun c_18 => ?_) (fun c_18 => ?_)
      · have hw := hwt c_18
        refine lv_aload_n X.1 X.2.1 dX11_shop_30 rfl (lv_at hl 0 rfl) ?_
        obtain ⟨g_8, hw⟩ := hw
        refine r_getN (ci := 1) X inw_1 h (h.2.2.2.2.1 j_2 g_8) rfl rfl 2 (by decide) kw_1193 rfl dX11_shop_31 ?_
        refine lv_iload_n X.1 X.2.1 dX11_shop_34 rfl (lv_at hl 3 rfl) ?_
        refine j_iadd X dX11_shop_35 ?_
        refine lv_aload_n X.1 X.2.1 dX11_shop_36 rfl (lv_at hl 1 rfl) ?_
        refine lv_iload_n X.1 X.2.1 dX11_shop_37 rfl (lv_at hl 2 rfl) ?_
        refine j_iconst X dX11_shop_38 ?_
        refine k_i h (r_V (C := RX11) (ci := 11) (As := [.int (iv x1), .int (iv 2)]) (rest := [.int (iv ((σ_5 1 j_2 2) + x2))]) X h (c_X11_numberFor l D ct ad L φ N0 σ_5 x1 2 _ hw) rfl rfl ⟨Nat.le_of_ble_eq_true rfl, Nat.le_of_ble_eq_true rfl⟩ kw_909 kw_911 kw_21 kw_120 kw_912 ⟨rfl, pd_X11_numberFor⟩ (hF.1 11 rfl).1 rfl rfl rfl hl.1 rfl (Nat.le_of_ble_eq_true rfl) ⟨Nat.le_of_ble_eq_true rfl, Nat.le_of_ble_eq_true rfl⟩ dX11_shop_39) (fun r_10 σ_9 H locs hw h => ?_)
        obtain ⟨g_11, g_12, hwt, hwf⟩ := hw
        refine j_cmp_le (tgt := 48) X g_11 g_12 dX11_shop_42 (by decide) (fun c_17 => ?_) (fun c_17 => ?_)
        · have hw := hwt c_17
          refine lv_aload_n X.1 X.2.1 dX11_shop_48 rfl (lv_at hl 0 rfl) ?_
          refine lv_dup X.1 X.2.1 dX11_shop_49 rfl ?_
          obtain ⟨g_13, hw⟩ := hw
          refine r_getN (ci := 1) X inw_1 h (h.2.2.2.2.1 j_2 g_13) rfl rfl 2 (by decide) kw_1193 rfl dX11_shop_50 ?_
          refine lv_iload_n X.1 X.2.1 dX11_shop_53 rfl (lv_at hl 3 rfl) ?_
          refine j_iadd X dX11_shop_54 ?_
          obtain ⟨g_14, hw⟩ := hw
          refine r_putN (ci := 1) X inw_1 tyX1 tyX1_ok nmX1 h (h.2.2.2.2.1 j_2 g_14) rfl rfl 2 (by decide) kw_1193 rfl rfl rfl (Nat.le_of_ble_eq_true rfl) rfl rfl dX11_shop_55 (fun H locs h => ?_)
          obtain ⟨σ_15, eσ_15⟩ : ∃ z : St, z = st σ_9 1 j_2 2 ((σ_9 1 j_2 2) + x2) := ⟨_, rfl⟩
          rw [← eσ_15] at h
          have hw := hw σ_15 eσ_15
          refine lv_aload_n X.1 X.2.1 dX11_shop_58 rfl (lv_at hl 0 rfl) ?_
          obtain ⟨g_16, hw⟩ := hw
          refine r_getN (ci := 1) X inw_1 h (h.2.2.2.2.1 j_2 g_16) rfl rfl 2 (by decide) kw_1193 rfl dX11_shop_59 ?_
          exact k_ir X rfl h hw dX11_shop_62
        · have hw := hwf c_17
          refine j_bipush X dX11_shop_45 (by decide) ?_
          exact k_ir X rfl h hw dX11_shop_47
      · have hw := hwf c_18
        refine j_iconst X dX11_shop_28 ?_
        exact k_ir X rfl h hw dX11_shop_29
end
section
variable {p : Program} {l : Launch} {e : Env} {s : State} {m : MethodId} {args : Array Value} {below : List Frame} {meth : Method} {c : Code} {D : va_G} {ct : Nat → ClassId} {ad : Nat → Nat → Nat} {L : List (Nat × Nat)} {φ : Nat → Nat → Nat → Bool} {N0 : Nat}
variable {Q : Int → St → Prop}
set_option maxRecDepth 100000 in
set_option maxHeartbeats 4000000 in
theorem lb_X11_leave_17 (X : Cx p s m meth c args cX11_leave 3 (some .int) RX11 D ct L φ N0) (σ : St) (H : Heap) (locs : List Loc) (ls : Array Slot) (hw : wp_X11_leave_17 Q σ) (h : Hs D ct ad L φ N0 s.heap σ H locs) (hl : lv_has ls 3 []) : W p l e ({ frames := 2, cells := 0, slots := 0, locals := 43 } : Room) s m args below meth c H locs 0 0 (MQ below (Qi D ct ad L φ N0 Q) args s 0 0 (AA N0)) (F0 m 17 ls []) := by
  have hF := X.2.2.2.2.2.2.2.2.1
  unfold wp_X11_leave_17 at hw
  refine j_ldc_w (n := (-1000000)) X kw_1217 (by decide) dX11_leave_17 ?_
  refine lv_goto (tgt := 27) X.1 X.2.1 dX11_leave_20 (by decide) ?_
  exact k_ir X rfl h hw dX11_leave_27
theorem pd_X11_leave : yX11_leave.cls ≠ "java/lang/invoke/MethodHandle" ∧ yX11_leave.cls ≠ "java/lang/invoke/VarHandle" ∧ (parseMethodDescriptor yX11_leave.desc).map (fun d => d.parameters.length) = some 1 := by decide +kernel
set_option maxRecDepth 100000 in
set_option maxHeartbeats 4000000 in
theorem c_X11_leave (l : Launch) (D : va_G) (ct : Nat → ClassId) (ad : Nat → Nat → Nat) (L : List (Nat × Nat)) (φ : Nat → Nat → Nat → Bool) (N0 : Nat) (σ : St) (x1 : Int) (Q : Int → St → Prop) (hw : wp_X11_leave σ x1 Q) : Met l yX11_leave (.code yX11_leave cX11_leave 3 (some .int) :: gw) ({ frames := 2, cells := 0, slots := 0, locals := 43 } : Room) (Pm D ct ad L φ N0 σ [.ref (ad 11 0), .int (iv x1)]) (Qi D ct ad L φ N0 Q) 0 0 (AA N0) := by
  refine m_of (by decide) (fun p e s m below meth c X hnm h => ?_)
  have hF := X.2.2.2.2.2.2.2.2.1
  have hl := lv_entry ([.ref (ad 11 0), .int (iv x1)]) (n := 3) (Nat.le_of_ble_eq_true rfl)
  rw [lg_entry_eq]
  generalize (lg_sl ([.ref (ad 11 0), .int (iv x1)]) ++ List.replicate (3 - (lg_sl ([.ref (ad 11 0), .int (iv x1)])).length) Slot.unset).toArray = ls at hl ⊢
  have hl : lv_has ls 3 [(0, .ref (ad 11 0)), (1, .int (iv x1))] := hl
  have h : Hs D ct ad L φ N0 s.heap σ s.heap [] := h
  unfold wp_X11_leave at hw
  refine lv_aload_n X.1 X.2.1 dX11_leave_0 rfl (lv_at hl 0 rfl) ?_
  refine lv_iload_n X.1 X.2.1 dX11_leave_1 rfl (lv_at hl 1 rfl) ?_
  refine k_o h (r_V (C := RX11) (ci := 11) (As := [.int (iv x1)]) (rest := []) X h (c_X11_crewAt l D ct ad L φ N0 σ x1 _ hw) rfl rfl ⟨Nat.le_of_ble_eq_true rfl, Nat.le_of_ble_eq_true rfl⟩ kw_645 kw_647 kw_4 kw_120 kw_648 ⟨rfl, pd_X11_crewAt⟩ (hF.1 11 rfl).1 rfl rfl rfl hl.1 rfl (Nat.le_of_ble_eq_true rfl) ⟨Nat.le_of_ble_eq_true rfl, Nat.le_of_ble_eq_true rfl⟩ dX11_leave_2) (fun o_9 σ_1 H locs hw h => ?_)
  cases o_9 with
  | none =>
    refine lv_astore_nN (lv' := [(2, .null), (0, .ref (ad 11 0)), (1, .int (iv x1))]) X.1 X.2.1 dX11_leave_5 rfl hl (by decide) rfl (fun ls hl => ?_)
    refine lv_aload_nN X.1 X.2.1 dX11_leave_6 rfl (lv_at hl 0 rfl) ?_
    refine lv_ifnullN (tgt := 17) X.1 X.2.1 dX11_leave_7 (by decide) ?_
    exact lb_X11_leave_17 X σ_1 _ _ _ hw h (lv_sub hl [] rfl)
  | some j_2 =>
    refine lv_astore_n (lv' := [(2, .ref (ad 1 j_2)), (0, .ref (ad 11 0)), (1, .int (iv x1))]) X.1 X.2.1 dX11_leave_5 rfl hl (by decide) rfl (fun ls hl => ?_)
    refine lv_aload_n X.1 X.2.1 dX11_leave_6 rfl (lv_at hl 0 rfl) ?_
    refine lv_ifnull X.1 X.2.1 dX11_leave_7 ?_
    refine lv_aload_n X.1 X.2.1 dX11_leave_10 rfl (lv_at hl 0 rfl) ?_
    obtain ⟨g_3, hw⟩ := hw
    refine r_getN (ci := 1) X inw_1 h (h.2.2.2.2.1 j_2 g_3) rfl rfl 4 (by decide) kw_1197 rfl dX11_leave_11 ?_
    obtain ⟨g_4, hwt, hwf⟩ := hw
    refine j_if_eq (tgt := 23) X g_4 dX11_leave_14 (by decide) (fun c_8 => ?_) (fun c_8 => ?_)
    · have hw := hwt c_8
      refine lv_aload_n X.1 X.2.1 dX11_leave_23 rfl (lv_at hl 0 rfl) ?_
      obtain ⟨g_5, hw⟩ := hw
      refine k_i h (r_V (C := RX1) (ci := 1) (As := []) (rest := []) X h (c_X1_settleForGood l D ct ad L φ N0 σ_1 j_2 _ hw) rfl rfl ⟨Nat.le_of_ble_eq_true rfl, Nat.le_of_ble_eq_true rfl⟩ kw_1218 kw_1219 kw_1220 kw_138 kw_1221 ⟨rfl, pd_X1_settleForGood⟩ (h.2.2.2.2.1 j_2 g_5) rfl rfl rfl hl.1 rfl (Nat.le_of_ble_eq_true rfl) ⟨Nat.le_of_ble_eq_true rfl, Nat.le_of_ble_eq_true rfl⟩ dX11_leave_24) (fun r_7 σ_6 H locs hw h => ?_)
      exact k_ir X rfl h hw dX11_leave_27
    · have hw := hwf c_8
      exact lb_X11_leave_17 X σ_1 _ _ _ hw h (lv_sub hl [] rfl)
end
section
variable {p : Program} {l : Launch} {e : Env} {s : State} {m : MethodId} {args : Array Value} {below : List Frame} {meth : Method} {c : Code} {D : va_G} {ct : Nat → ClassId} {ad : Nat → Nat → Nat} {L : List (Nat × Nat)} {φ : Nat → Nat → Nat → Bool} {N0 : Nat}
variable {Q : Int → St → Prop}
theorem pd_X11_crewOf : yX11_crewOf.cls ≠ "java/lang/invoke/MethodHandle" ∧ yX11_crewOf.cls ≠ "java/lang/invoke/VarHandle" ∧ (parseMethodDescriptor yX11_crewOf.desc).map (fun d => d.parameters.length) = some 2 := by decide +kernel
set_option maxRecDepth 100000 in
set_option maxHeartbeats 4000000 in
theorem c_X11_crewOf (l : Launch) (D : va_G) (ct : Nat → ClassId) (ad : Nat → Nat → Nat) (L : List (Nat × Nat)) (φ : Nat → Nat → Nat → Bool) (N0 : Nat) (σ : St) (x1 : Int) (x2 : Int) (Q : Int → St → Prop) (hw : wp_X11_crewOf σ x1 x2 Q) : Met l yX11_crewOf (.code yX11_crewOf cX11_crewOf 4 (some .int) :: gw) ({ frames := 2, cells := 0, slots := 0, locals := 43 } : Room) (Pm D ct ad L φ N0 σ [.ref (ad 11 0), .int (iv x1), .int (iv x2)]) (Qi D ct ad L φ N0 Q) 0 0 (AA N0) := by
  refine m_of (by decide) (fun p e s m below meth c X hnm h => ?_)
  have hF := X.2.2.2.2.2.2.2.2.1
  have hl := lv_entry ([.ref (ad 11 0), .int (iv x1), .int (iv x2)]) (n := 4) (Nat.le_of_ble_eq_true rfl)
  rw [lg_entry_eq]
  generalize (lg_sl ([.ref (ad 11 0), .int (iv x1), .int (iv x2)]) ++ List.replicate (4 - (lg_sl ([.ref (ad 11 0), .int (iv x1), .int (iv x2)])).length) Slot.unset).toArray = ls at hl ⊢
  have hl : lv_has ls 4 [(0, .ref (ad 11 0)), (1, .int (iv x1)), (2, .int (iv x2))] := hl
  have h : Hs D ct ad L φ N0 s.heap σ s.heap [] := h
  unfold wp_X11_crewOf at hw
  refine lv_aload_n X.1 X.2.1 dX11_crewOf_0 rfl (lv_at hl 0 rfl) ?_
  refine lv_iload_n X.1 X.2.1 dX11_crewOf_1 rfl (lv_at hl 1 rfl) ?_
  refine k_o h (r_V (C := RX11) (ci := 11) (As := [.int (iv x1)]) (rest := []) X h (c_X11_crewAt l D ct ad L φ N0 σ x1 _ hw) rfl rfl ⟨Nat.le_of_ble_eq_true rfl, Nat.le_of_ble_eq_true rfl⟩ kw_645 kw_647 kw_4 kw_120 kw_648 ⟨rfl, pd_X11_crewAt⟩ (hF.1 11 rfl).1 rfl rfl rfl hl.1 rfl (Nat.le_of_ble_eq_true rfl) ⟨Nat.le_of_ble_eq_true rfl, Nat.le_of_ble_eq_true rfl⟩ dX11_crewOf_2) (fun o_6 σ_1 H locs hw h => ?_)
  cases o_6 with
  | none =>
    refine lv_astore_nN (lv' := [(3, .null), (0, .ref (ad 11 0)), (1, .int (iv x1)), (2, .int (iv x2))]) X.1 X.2.1 dX11_crewOf_5 rfl hl (by decide) rfl (fun ls hl => ?_)
    refine lv_aload_nN X.1 X.2.1 dX11_crewOf_6 rfl (lv_at hl 0 rfl) ?_
    refine lv_ifnonnullN X.1 X.2.1 dX11_crewOf_7 ?_
    refine j_iconst X dX11_crewOf_10 ?_
    refine lv_goto (tgt := 19) X.1 X.2.1 dX11_crewOf_11 (by decide) ?_
    exact k_ir X rfl h hw dX11_crewOf_19
  | some j_2 =>
    refine lv_astore_n (lv' := [(3, .ref (ad 1 j_2)), (0, .ref (ad 11 0)), (1, .int (iv x1)), (2, .int (iv x2))]) X.1 X.2.1 dX11_crewOf_5 rfl hl (by decide) rfl (fun ls hl => ?_)
    refine lv_aload_n X.1 X.2.1 dX11_crewOf_6 rfl (lv_at hl 0 rfl) ?_
    refine lv_ifnonnull (tgt := 14) X.1 X.2.1 dX11_crewOf_7 (by decide) ?_
    refine lv_aload_n X.1 X.2.1 dX11_crewOf_14 rfl (lv_at hl 0 rfl) ?_
    refine lv_iload_n X.1 X.2.1 dX11_crewOf_15 rfl (lv_at hl 3 rfl) ?_
    obtain ⟨g_3, hw⟩ := hw
    refine k_i h (r_V (C := RX1) (ci := 1) (As := [.int (iv x2)]) (rest := []) X h (c_X1_told l D ct ad L φ N0 σ_1 j_2 x2 _ hw) rfl rfl ⟨Nat.le_of_ble_eq_true rfl, Nat.le_of_ble_eq_true rfl⟩ kw_1227 kw_1228 kw_1229 kw_138 kw_1230 ⟨rfl, pd_X1_told⟩ (h.2.2.2.2.1 j_2 g_3) rfl rfl rfl hl.1 rfl (Nat.le_of_ble_eq_true rfl) ⟨Nat.le_of_ble_eq_true rfl, Nat.le_of_ble_eq_true rfl⟩ dX11_crewOf_16) (fun r_5 σ_4 H locs hw h => ?_)
    exact k_ir X rfl h hw dX11_crewOf_19
end
section
variable {p : Program} {l : Launch} {e : Env} {s : State} {m : MethodId} {args : Array Value} {below : List Frame} {meth : Method} {c : Code} {D : va_G} {ct : Nat → ClassId} {ad : Nat → Nat → Nat} {L : List (Nat × Nat)} {φ : Nat → Nat → Nat → Bool} {N0 : Nat}
variable {Q : Int → St → Prop}
theorem pd_X11_lease : yX11_lease.cls ≠ "java/lang/invoke/MethodHandle" ∧ yX11_lease.cls ≠ "java/lang/invoke/VarHandle" ∧ (parseMethodDescriptor yX11_lease.desc).map (fun d => d.parameters.length) = some 1 := by decide +kernel
set_option maxRecDepth 100000 in
set_option maxHeartbeats 4000000 in
theorem c_X11_lease (l : Launch) (D : va_G) (ct : Nat → ClassId) (ad : Nat → Nat → Nat) (L : List (Nat × Nat)) (φ : Nat → Nat → Nat → Bool) (N0 : Nat) (σ : St) (x1 : Int) (Q : Int → St → Prop) (hw : wp_X11_lease σ x1 Q) : Met l yX11_lease (.code yX11_lease cX11_lease 2 (some .boolean) :: gw) ({ frames := 1, cells := 0, slots := 0, locals := 22 } : Room) (Pm D ct ad L φ N0 σ [.ref (ad 11 0), .int (iv x1)]) (Qi D ct ad L φ N0 Q) 0 0 (AA N0) := by
  refine m_of (by decide) (fun p e s m below meth c X hnm h => ?_)
  have hF := X.2.2.2.2.2.2.2.2.1
  have hl := lv_entry ([.ref (ad 11 0), .int (iv x1)]) (n := 2) (Nat.le_of_ble_eq_true rfl)
  rw [lg_entry_eq]
  generalize (lg_sl ([.ref (ad 11 0), .int (iv x1)]) ++ List.replicate (2 - (lg_sl ([.ref (ad 11 0), .int (iv x1)])).length) Slot.unset).toArray = ls at hl ⊢
  have hl : lv_has ls 2 [(0, .ref (ad 11 0)), (1, .int (iv x1))] := hl
  have h : Hs D ct ad L φ N0 s.heap σ s.heap [] := h
  unfold wp_X11_lease at hw
  refine lv_iload_n X.1 X.2.1 dX11_lease_0 rfl (lv_at hl 1 rfl) ?_
  refine j_iconst X dX11_lease_1 ?_
  refine j_iconst X dX11_lease_2 ?_
  refine k_i h (r_S (As := [.int (iv x1), .int (iv 0), .int (iv 1)]) (rest := []) X h (c_X11_within l D ct ad L φ N0 σ x1 0 1 _ hw) rfl rfl ⟨Nat.le_of_ble_eq_true rfl, Nat.le_of_ble_eq_true rfl⟩ kw_526 kw_527 kw_120 kw_528 pd_X11_within rfl hl.1 rfl (Nat.le_of_ble_eq_true rfl) ⟨Nat.le_of_ble_eq_true rfl, Nat.le_of_ble_eq_true rfl⟩ dX11_lease_3) (fun r_2 σ_1 H locs hw h => ?_)
  obtain ⟨g_3, hwt, hwf⟩ := hw
  refine j_if_ne (tgt := 11) X g_3 dX11_lease_6 (by decide) (fun c_5 => ?_) (fun c_5 => ?_)
  · have hw := hwt c_5
    refine lv_aload_n X.1 X.2.1 dX11_lease_11 rfl (lv_at hl 0 rfl) ?_
    refine lv_iload_n X.1 X.2.1 dX11_lease_12 rfl (lv_at hl 1 rfl) ?_
    refine r_put (ci := 11) X inw_11 tyX11 tyX11_ok nmX11 h (hF.1 11 rfl).1 rfl rfl 12 (by decide) kw_470 rfl rfl rfl (Nat.le_of_ble_eq_true rfl) rfl rfl dX11_lease_13 (fun H locs h => ?_)
    obtain ⟨σ_4, eσ_4⟩ : ∃ z : St, z = st σ_1 11 0 12 x1 := ⟨_, rfl⟩
    rw [← eσ_4] at h
    have hw := hw σ_4 eσ_4
    refine j_iconst X dX11_lease_16 ?_
    exact k_ir X rfl h hw dX11_lease_17
  · have hw := hwf c_5
    refine j_iconst X dX11_lease_9 ?_
    exact k_ir X rfl h hw dX11_lease_10
end
section
variable {p : Program} {l : Launch} {e : Env} {s : State} {m : MethodId} {args : Array Value} {below : List Frame} {meth : Method} {c : Code} {D : va_G} {ct : Nat → ClassId} {ad : Nat → Nat → Nat} {L : List (Nat × Nat)} {φ : Nat → Nat → Nat → Bool} {N0 : Nat}
variable {Q : Int → St → Prop}
theorem pd_X11_scale : yX11_scale.cls ≠ "java/lang/invoke/MethodHandle" ∧ yX11_scale.cls ≠ "java/lang/invoke/VarHandle" ∧ (parseMethodDescriptor yX11_scale.desc).map (fun d => d.parameters.length) = some 2 := by decide +kernel
set_option maxRecDepth 100000 in
set_option maxHeartbeats 4000000 in
theorem c_X11_scale (l : Launch) (D : va_G) (ct : Nat → ClassId) (ad : Nat → Nat → Nat) (L : List (Nat × Nat)) (φ : Nat → Nat → Nat → Bool) (N0 : Nat) (σ : St) (x1 : Int) (x2 : Int) (Q : Int → St → Prop) (hw : wp_X11_scale σ x1 x2 Q) : Met l yX11_scale (.code yX11_scale cX11_scale 4 (some .int) :: gw) ({ frames := 2, cells := 0, slots := 0, locals := 43 } : Room) (Pm D ct ad L φ N0 σ [.ref (ad 11 0), .int (iv x1), .int (iv x2)]) (Qi D ct ad L φ N0 Q) 0 0 (AA N0) := by
  refine m_of (by decide) (fun p e s m below meth c X hnm h => ?_)
  have hF := X.2.2.2.2.2.2.2.2.1
  have hl := lv_entry ([.ref (ad 11 0), .int (iv x1), .int (iv x2)]) (n := 4) (Nat.le_of_ble_eq_true rfl)
  rw [lg_entry_eq]
  generalize (lg_sl ([.ref (ad 11 0), .int (iv x1), .int (iv x2)]) ++ List.replicate (4 - (lg_sl ([.ref (ad 11 0), .int (iv x1), .int (iv x2)])).length) Slot.unset).toArray = ls at hl ⊢
  have hl : lv_has ls 4 [(0, .ref (ad 11 0)), (1, .int (iv x1)), (2, .int (iv x2))] := hl
  have h : Hs D ct ad L φ N0 s.heap σ s.heap [] := h
  unfold wp_X11_scale at hw
  refine lv_aload_n X.1 X.2.1 dX11_scale_0 rfl (lv_at hl 0 rfl) ?_
  refine lv_iload_n X.1 X.2.1 dX11_scale_1 rfl (lv_at hl 1 rfl) ?_
  refine k_o h (r_V (C := RX11) (ci := 11) (As := [.int (iv x1)]) (rest := []) X h (c_X11_logAt l D ct ad L φ N0 σ x1 _ hw) rfl rfl ⟨Nat.le_of_ble_eq_true rfl, Nat.le_of_ble_eq_true rfl⟩ kw_794 kw_796 kw_12 kw_120 kw_797 ⟨rfl, pd_X11_logAt⟩ (hF.1 11 rfl).1 rfl rfl rfl hl.1 rfl (Nat.le_of_ble_eq_true rfl) ⟨Nat.le_of_ble_eq_true rfl, Nat.le_of_ble_eq_true rfl⟩ dX11_scale_2) (fun o_10 σ_1 H locs hw h => ?_)
  cases o_10 with
  | none =>
    refine lv_astore_nN (lv' := [(3, .null), (0, .ref (ad 11 0)), (1, .int (iv x1)), (2, .int (iv x2))]) X.1 X.2.1 dX11_scale_5 rfl hl (by decide) rfl (fun ls hl => ?_)
    refine lv_aload_nN X.1 X.2.1 dX11_scale_6 rfl (lv_at hl 0 rfl) ?_
    refine lv_ifnullN (tgt := 19) X.1 X.2.1 dX11_scale_7 (by decide) ?_
    refine j_iconst X dX11_scale_19 ?_
    refine lv_goto (tgt := 28) X.1 X.2.1 dX11_scale_20 (by decide) ?_
    exact k_ir X rfl h hw dX11_scale_28
  | some j_2 =>
    refine lv_astore_n (lv' := [(3, .ref (ad 4 j_2)), (0, .ref (ad 11 0)), (1, .int (iv x1)), (2, .int (iv x2))]) X.1 X.2.1 dX11_scale_5 rfl hl (by decide) rfl (fun ls hl => ?_)
    refine lv_aload_n X.1 X.2.1 dX11_scale_6 rfl (lv_at hl 0 rfl) ?_
    refine lv_ifnull X.1 X.2.1 dX11_scale_7 ?_
    refine lv_iload_n X.1 X.2.1 dX11_scale_10 rfl (lv_at hl 3 rfl) ?_
    refine j_iconst X dX11_scale_11 ?_
    refine j_iconst X dX11_scale_12 ?_
    refine k_i h (r_S (As := [.int (iv x2), .int (iv 0), .int (iv 1)]) (rest := []) X h (c_X11_within l D ct ad L φ N0 σ_1 x2 0 1 _ hw) rfl rfl ⟨Nat.le_of_ble_eq_true rfl, Nat.le_of_ble_eq_true rfl⟩ kw_526 kw_527 kw_120 kw_528 pd_X11_within rfl hl.1 rfl (Nat.le_of_ble_eq_true rfl) ⟨Nat.le_of_ble_eq_true rfl, Nat.le_of_ble_eq_true rfl⟩ dX11_scale_13) (fun r_4 σ_3 H locs hw h => ?_)
    obtain ⟨g_5, hwt, hwf⟩ := hw
    refine j_if_ne (tgt := 23) X g_5 dX11_scale_16 (by decide) (fun c_9 => ?_) (fun c_9 => ?_)
    · have hw := hwt c_9
      refine lv_aload_n X.1 X.2.1 dX11_scale_23 rfl (lv_at hl 0 rfl) ?_
      refine lv_iload_n X.1 X.2.1 dX11_scale_24 rfl (lv_at hl 3 rfl) ?_
      obtain ⟨g_6, hw⟩ := hw
      refine k_i h (r_V (C := RX4) (ci := 4) (As := [.int (iv x2)]) (rest := []) X h (c_X4_scaleBy l D ct ad L φ N0 σ_3 j_2 x2 _ hw) rfl rfl ⟨Nat.le_of_ble_eq_true rfl, Nat.le_of_ble_eq_true rfl⟩ kw_780 kw_781 kw_782 kw_131 kw_783 ⟨rfl, pd_X4_scaleBy⟩ (h.2.2.1 j_2 g_6).1 rfl rfl rfl hl.1 rfl (Nat.le_of_ble_eq_true rfl) ⟨Nat.le_of_ble_eq_true rfl, Nat.le_of_ble_eq_true rfl⟩ dX11_scale_25) (fun r_8 σ_7 H locs hw h => ?_)
      exact k_ir X rfl h hw dX11_scale_28
    · have hw := hwf c_9
      refine j_iconst X dX11_scale_19 ?_
      refine lv_goto (tgt := 28) X.1 X.2.1 dX11_scale_20 (by decide) ?_
      exact k_ir X rfl h hw dX11_scale_28
end
section
variable {p : Program} {l : Launch} {e : Env} {s : State} {m : MethodId} {args : Array Value} {below : List Frame} {meth : Method} {c : Code} {D : va_G} {ct : Nat → ClassId} {ad : Nat → Nat → Nat} {L : List (Nat × Nat)} {φ : Nat → Nat → Nat → Bool} {N0 : Nat}
variable {Q : Int → St → Prop}
theorem pd_X11_found : yX11_found.cls ≠ "java/lang/invoke/MethodHandle" ∧ yX11_found.cls ≠ "java/lang/invoke/VarHandle" ∧ (parseMethodDescriptor yX11_found.desc).map (fun d => d.parameters.length) = some 3 := by decide +kernel
set_option maxRecDepth 100000 in
set_option maxHeartbeats 4000000 in
theorem c_X11_found (l : Launch) (D : va_G) (ct : Nat → ClassId) (ad : Nat → Nat → Nat) (L : List (Nat × Nat)) (φ : Nat → Nat → Nat → Bool) (N0 : Nat) (σ : St) (x1 : Int) (x2 : Int) (x3 : Int) (Q : Int → St → Prop) (hw : wp_X11_found σ x1 x2 x3 Q) : Met l yX11_found (.code yX11_found cX11_found 4 (some .boolean) :: gw) ({ frames := 2, cells := 0, slots := 0, locals := 43 } : Room) (Pm D ct ad L φ N0 σ [.ref (ad 11 0), .int (iv x1), .int (iv x2), .int (iv x3)]) (Qi D ct ad L φ N0 Q) 0 0 (AA N0) := by
  refine m_of (by decide) (fun p e s m below meth c X hnm h => ?_)
  have hF := X.2.2.2.2.2.2.2.2.1
  have hl := lv_entry ([.ref (ad 11 0), .int (iv x1), .int (iv x2), .int (iv x3)]) (n := 4) (Nat.le_of_ble_eq_true rfl)
  rw [lg_entry_eq]
  generalize (lg_sl ([.ref (ad 11 0), .int (iv x1), .int (iv x2), .int (iv x3)]) ++ List.replicate (4 - (lg_sl ([.ref (ad 11 0), .int (iv x1), .int (iv x2), .int (iv x3)])).length) Slot.unset).toArray = ls at hl ⊢
  have hl : lv_has ls 4 [(0, .ref (ad 11 0)), (1, .int (iv x1)), (2, .int (iv x2)), (3, .int (iv x3))] := hl
  have h : Hs D ct ad L φ N0 s.heap σ s.heap [] := h
  unfold wp_X11_found at hw
  refine lv_iload_n X.1 X.2.1 dX11_found_0 rfl (lv_at hl 1 rfl) ?_
  refine j_iconst X dX11_found_1 ?_
  refine j_iconst X dX11_found_2 ?_
  refine k_i h (r_S (As := [.int (iv x1), .int (iv 0), .int (iv 4)]) (rest := []) X h (c_X11_within l D ct ad L φ N0 σ x1 0 4 _ hw) rfl rfl ⟨Nat.le_of_ble_eq_true rfl, Nat.le_of_ble_eq_true rfl⟩ kw_526 kw_527 kw_120 kw_528 pd_X11_within rfl hl.1 rfl (Nat.le_of_ble_eq_true rfl) ⟨Nat.le_of_ble_eq_true rfl, Nat.le_of_ble_eq_true rfl⟩ dX11_found_3) (fun r_2 σ_1 H locs hw h => ?_)
  obtain ⟨g_3, hwt, hwf⟩ := hw
  refine j_if_eq (tgt := 17) X g_3 dX11_found_6 (by decide) (fun c_23 => ?_) (fun c_23 => ?_)
  · have hw := hwt c_23
    refine j_iconst X dX11_found_17 ?_
    exact k_ir X rfl h hw dX11_found_18
  · have hw := hwf c_23
    refine lv_aload_n X.1 X.2.1 dX11_found_9 rfl (lv_at hl 0 rfl) ?_
    refine lv_iload_n X.1 X.2.1 dX11_found_10 rfl (lv_at hl 2 rfl) ?_
    refine k_o h (r_V (C := RX11) (ci := 11) (As := [.int (iv x2)]) (rest := []) X h (c_X11_logAt l D ct ad L φ N0 σ_1 x2 _ hw) rfl rfl ⟨Nat.le_of_ble_eq_true rfl, Nat.le_of_ble_eq_true rfl⟩ kw_794 kw_796 kw_12 kw_120 kw_797 ⟨rfl, pd_X11_logAt⟩ (hF.1 11 rfl).1 rfl rfl rfl hl.1 rfl (Nat.le_of_ble_eq_true rfl) ⟨Nat.le_of_ble_eq_true rfl, Nat.le_of_ble_eq_true rfl⟩ dX11_found_11) (fun o_22 σ_4 H locs hw h => ?_)
    cases o_22 with
    | none =>
      refine lv_ifnonnullN X.1 X.2.1 dX11_found_14 ?_
      refine j_iconst X dX11_found_17 ?_
      exact k_ir X rfl h hw dX11_found_18
    | some j_5 =>
      refine lv_ifnonnull (tgt := 19) X.1 X.2.1 dX11_found_14 (by decide) ?_
      refine lv_iload_n X.1 X.2.1 dX11_found_19 rfl (lv_at hl 3 rfl) ?_
      refine j_iconst X dX11_found_20 ?_
      refine j_sipush X dX11_found_21 (by decide) ?_
      refine k_i h (r_S (As := [.int (iv x3), .int (iv 0), .int (iv 999)]) (rest := []) X h (c_X11_within l D ct ad L φ N0 σ_4 x3 0 999 _ hw) rfl rfl ⟨Nat.le_of_ble_eq_true rfl, Nat.le_of_ble_eq_true rfl⟩ kw_526 kw_527 kw_120 kw_528 pd_X11_within rfl hl.1 rfl (Nat.le_of_ble_eq_true rfl) ⟨Nat.le_of_ble_eq_true rfl, Nat.le_of_ble_eq_true rfl⟩ dX11_found_24) (fun r_7 σ_6 H locs hw h => ?_)
      obtain ⟨g_8, hwt, hwf⟩ := hw
      refine j_if_eq (tgt := 39) X g_8 dX11_found_27 (by decide) (fun c_21 => ?_) (fun c_21 => ?_)
      · have hw := hwt c_21
        refine j_iconst X dX11_found_39 ?_
        exact k_ir X rfl h hw dX11_found_40
      · have hw := hwf c_21
        refine lv_aload_n X.1 X.2.1 dX11_found_30 rfl (lv_at hl 0 rfl) ?_
        refine r_get (ci := 11) X inw_11 h (hF.1 11 rfl).1 rfl rfl 16 (by decide) kw_474 rfl dX11_found_31 ?_
        refine j_bipush X dX11_found_34 (by decide) ?_
        obtain ⟨g_9, hwt, hwf⟩ := hw
        refine j_cmp_lt (tgt := 41) X g_9 ⟨by decide, by decide⟩ dX11_found_36 (by decide) (fun c_20 => ?_) (fun c_20 => ?_)
        · have hw := hwt c_20
          refine lv_aload_n X.1 X.2.1 dX11_found_41 rfl (lv_at hl 0 rfl) ?_
          refine r_getR (ci := 11) X inw_11 h (hF.1 11 rfl).1 rfl rfl 13 (by decide) kw_471 rfl ((hF.1 11 rfl).2 13) dX11_found_42 ?_
          refine lv_aload_n X.1 X.2.1 dX11_found_45 rfl (lv_at hl 0 rfl) ?_
          refine r_get (ci := 11) X inw_11 h (hF.1 11 rfl).1 rfl rfl 16 (by decide) kw_474 rfl dX11_found_46 ?_
          refine lv_iload_n X.1 X.2.1 dX11_found_49 rfl (lv_at hl 1 rfl) ?_
          obtain ⟨g_10, g_11, hw⟩ := hw
          refine r_iast (n := 60) X h (hF.1 80 rfl).1 (fun _ => rfl) (by decide) g_10 g_11 rfl dX11_found_50 (fun H locs h => ?_)
          obtain ⟨σ_12, eσ_12⟩ : ∃ z : St, z = st σ_6 80 0 (Int.toNat (σ_6 11 0 16)) x1 := ⟨_, rfl⟩
          rw [← eσ_12] at h
          have hw := hw σ_12 eσ_12
          refine lv_aload_n X.1 X.2.1 dX11_found_51 rfl (lv_at hl 0 rfl) ?_
          refine r_getR (ci := 11) X inw_11 h (hF.1 11 rfl).1 rfl rfl 14 (by decide) kw_472 rfl ((hF.1 11 rfl).2 14) dX11_found_52 ?_
          refine lv_aload_n X.1 X.2.1 dX11_found_55 rfl (lv_at hl 0 rfl) ?_
          refine r_get (ci := 11) X inw_11 h (hF.1 11 rfl).1 rfl rfl 16 (by decide) kw_474 rfl dX11_found_56 ?_
          refine lv_iload_n X.1 X.2.1 dX11_found_59 rfl (lv_at hl 2 rfl) ?_
          obtain ⟨g_13, g_14, hw⟩ := hw
          refine r_iast (n := 60) X h (hF.1 81 rfl).1 (fun _ => rfl) (by decide) g_13 g_14 rfl dX11_found_60 (fun H locs h => ?_)
          obtain ⟨σ_15, eσ_15⟩ : ∃ z : St, z = st σ_12 81 0 (Int.toNat (σ_12 11 0 16)) x2 := ⟨_, rfl⟩
          rw [← eσ_15] at h
          have hw := hw σ_15 eσ_15
          refine lv_aload_n X.1 X.2.1 dX11_found_61 rfl (lv_at hl 0 rfl) ?_
          refine r_getR (ci := 11) X inw_11 h (hF.1 11 rfl).1 rfl rfl 15 (by decide) kw_473 rfl ((hF.1 11 rfl).2 15) dX11_found_62 ?_
          refine lv_aload_n X.1 X.2.1 dX11_found_65 rfl (lv_at hl 0 rfl) ?_
          refine r_get (ci := 11) X inw_11 h (hF.1 11 rfl).1 rfl rfl 16 (by decide) kw_474 rfl dX11_found_66 ?_
          refine lv_iload_n X.1 X.2.1 dX11_found_69 rfl (lv_at hl 3 rfl) ?_
          obtain ⟨g_16, g_17, hw⟩ := hw
          refine r_iast (n := 60) X h (hF.1 82 rfl).1 (fun _ => rfl) (by decide) g_16 g_17 rfl dX11_found_70 (fun H locs h => ?_)
          obtain ⟨σ_18, eσ_18⟩ : ∃ z : St, z = st σ_15 82 0 (Int.toNat (σ_15 11 0 16)) x3 := ⟨_, rfl⟩
          rw [← eσ_18] at h
          have hw := hw σ_18 eσ_18
          refine lv_aload_n X.1 X.2.1 dX11_found_71 rfl (lv_at hl 0 rfl) ?_
          refine lv_dup X.1 X.2.1 dX11_found_72 rfl ?_
          refine r_get (ci := 11) X inw_11 h (hF.1 11 rfl).1 rfl rfl 16 (by decide) kw_474 rfl dX11_found_73 ?_
          refine j_iconst X dX11_found_76 ?_
          refine j_iadd X dX11_found_77 ?_
          refine r_put (ci := 11) X inw_11 tyX11 tyX11_ok nmX11 h (hF.1 11 rfl).1 rfl rfl 16 (by decide) kw_474 rfl rfl rfl (Nat.le_of_ble_eq_true rfl) rfl rfl dX11_found_78 (fun H locs h => ?_)
          obtain ⟨σ_19, eσ_19⟩ : ∃ z : St, z = st σ_18 11 0 16 ((σ_18 11 0 16) + 1) := ⟨_, rfl⟩
          rw [← eσ_19] at h
          have hw := hw σ_19 eσ_19
          refine j_iconst X dX11_found_81 ?_
          exact k_ir X rfl h hw dX11_found_82
        · have hw := hwf c_20
          refine j_iconst X dX11_found_39 ?_
          exact k_ir X rfl h hw dX11_found_40
end
section
variable {p : Program} {l : Launch} {e : Env} {s : State} {m : MethodId} {args : Array Value} {below : List Frame} {meth : Method} {c : Code} {D : va_G} {ct : Nat → ClassId} {ad : Nat → Nat → Nat} {L : List (Nat × Nat)} {φ : Nat → Nat → Nat → Bool} {N0 : Nat}
variable {Q : Int → St → Prop}
theorem pd_X11_doubleDifference : yX11_doubleDifference.cls ≠ "java/lang/invoke/MethodHandle" ∧ yX11_doubleDifference.cls ≠ "java/lang/invoke/VarHandle" ∧ (parseMethodDescriptor yX11_doubleDifference.desc).map (fun d => d.parameters.length) = some 1 := by decide +kernel
set_option maxRecDepth 100000 in
set_option maxHeartbeats 4000000 in
theorem c_X11_doubleDifference (l : Launch) (D : va_G) (ct : Nat → ClassId) (ad : Nat → Nat → Nat) (L : List (Nat × Nat)) (φ : Nat → Nat → Nat → Bool) (N0 : Nat) (σ : St) (x1 : Int) (Q : Int → St → Prop) (hw : wp_X11_doubleDifference σ x1 Q) : Met l yX11_doubleDifference (.code yX11_doubleDifference cX11_doubleDifference 3 (some .int) :: gw) ({ frames := 2, cells := 0, slots := 0, locals := 43 } : Room) (Pm D ct ad L φ N0 σ [.ref (ad 11 0), .int (iv x1)]) (Qi D ct ad L φ N0 Q) 0 0 (AA N0) := by
  refine m_of (by decide) (fun p e s m below meth c X hnm h => ?_)
  have hF := X.2.2.2.2.2.2.2.2.1
  have hl := lv_entry ([.ref (ad 11 0), .int (iv x1)]) (n := 3) (Nat.le_of_ble_eq_true rfl)
  rw [lg_entry_eq]
  generalize (lg_sl ([.ref (ad 11 0), .int (iv x1)]) ++ List.replicate (3 - (lg_sl ([.ref (ad 11 0), .int (iv x1)])).length) Slot.unset).toArray = ls at hl ⊢
  have hl : lv_has ls 3 [(0, .ref (ad 11 0)), (1, .int (iv x1))] := hl
  have h : Hs D ct ad L φ N0 s.heap σ s.heap [] := h
  unfold wp_X11_doubleDifference at hw
  refine lv_aload_n X.1 X.2.1 dX11_doubleDifference_0 rfl (lv_at hl 0 rfl) ?_
  refine lv_aload_n X.1 X.2.1 dX11_doubleDifference_1 rfl (lv_at hl 0 rfl) ?_
  refine r_getR (ci := 11) X inw_11 h (hF.1 11 rfl).1 rfl rfl 14 (by decide) kw_472 rfl ((hF.1 11 rfl).2 14) dX11_doubleDifference_2 ?_
  refine lv_iload_n X.1 X.2.1 dX11_doubleDifference_5 rfl (lv_at hl 1 rfl) ?_
  obtain ⟨g_1, g_2, hw⟩ := hw
  refine r_iald (n := 60) X h (hF.1 81 rfl).1 rfl (by decide) g_1 g_2 dX11_doubleDifference_6 ?_
  refine k_o h (r_V (C := RX11) (ci := 11) (As := [.int (iv (σ 81 0 (Int.toNat x1)))]) (rest := []) X h (c_X11_logAt l D ct ad L φ N0 σ (σ 81 0 (Int.toNat x1)) _ hw) rfl rfl ⟨Nat.le_of_ble_eq_true rfl, Nat.le_of_ble_eq_true rfl⟩ kw_794 kw_796 kw_12 kw_120 kw_797 ⟨rfl, pd_X11_logAt⟩ (hF.1 11 rfl).1 rfl rfl rfl hl.1 rfl (Nat.le_of_ble_eq_true rfl) ⟨Nat.le_of_ble_eq_true rfl, Nat.le_of_ble_eq_true rfl⟩ dX11_doubleDifference_7) (fun o_10 σ_3 H locs hw h => ?_)
  cases o_10 with
  | none =>
    refine lv_astore_nN (lv' := [(2, .null), (0, .ref (ad 11 0)), (1, .int (iv x1))]) X.1 X.2.1 dX11_doubleDifference_10 rfl hl (by decide) rfl (fun ls hl => ?_)
    refine lv_aload_nN X.1 X.2.1 dX11_doubleDifference_11 rfl (lv_at hl 0 rfl) ?_
    refine lv_ifnonnullN X.1 X.2.1 dX11_doubleDifference_12 ?_
    refine j_iconst X dX11_doubleDifference_15 ?_
    refine lv_goto (tgt := 34) X.1 X.2.1 dX11_doubleDifference_16 (by decide) ?_
    exact k_ir X rfl h hw dX11_doubleDifference_34
  | some j_4 =>
    refine lv_astore_n (lv' := [(2, .ref (ad 4 j_4)), (0, .ref (ad 11 0)), (1, .int (iv x1))]) X.1 X.2.1 dX11_doubleDifference_10 rfl hl (by decide) rfl (fun ls hl => ?_)
    refine lv_aload_n X.1 X.2.1 dX11_doubleDifference_11 rfl (lv_at hl 0 rfl) ?_
    refine lv_ifnonnull (tgt := 19) X.1 X.2.1 dX11_doubleDifference_12 (by decide) ?_
    refine lv_aload_n X.1 X.2.1 dX11_doubleDifference_19 rfl (lv_at hl 1 rfl) ?_
    refine r_getR (ci := 11) X inw_11 h (hF.1 11 rfl).1 rfl rfl 15 (by decide) kw_473 rfl ((hF.1 11 rfl).2 15) dX11_doubleDifference_20 ?_
    refine lv_iload_n X.1 X.2.1 dX11_doubleDifference_23 rfl (lv_at hl 2 rfl) ?_
    obtain ⟨g_5, g_6, hw⟩ := hw
    refine r_iald (n := 60) X h (hF.1 82 rfl).1 rfl (by decide) g_5 g_6 dX11_doubleDifference_24 ?_
    refine lv_aload_n X.1 X.2.1 dX11_doubleDifference_25 rfl (lv_at hl 0 rfl) ?_
    refine lv_aload_n X.1 X.2.1 dX11_doubleDifference_26 rfl (lv_at hl 1 rfl) ?_
    refine r_get (ci := 11) X inw_11 h (hF.1 11 rfl).1 rfl rfl 12 (by decide) kw_470 rfl dX11_doubleDifference_27 ?_
    obtain ⟨g_7, hw⟩ := hw
    refine k_i h (r_V (C := RX4) (ci := 4) (As := [.int (iv (σ_3 11 0 12))]) (rest := [.int (iv (σ_3 82 0 (Int.toNat x1)))]) X h (c_X4_scaleBy l D ct ad L φ N0 σ_3 j_4 (σ_3 11 0 12) _ hw) rfl rfl ⟨Nat.le_of_ble_eq_true rfl, Nat.le_of_ble_eq_true rfl⟩ kw_780 kw_781 kw_782 kw_131 kw_783 ⟨rfl, pd_X4_scaleBy⟩ (h.2.2.1 j_4 g_7).1 rfl rfl rfl hl.1 rfl (Nat.le_of_ble_eq_true rfl) ⟨Nat.le_of_ble_eq_true rfl, Nat.le_of_ble_eq_true rfl⟩ dX11_doubleDifference_30) (fun r_9 σ_8 H locs hw h => ?_)
    refine j_isub X dX11_doubleDifference_33 ?_
    exact k_ir X rfl h hw dX11_doubleDifference_34
end
section
variable {p : Program} {l : Launch} {e : Env} {s : State} {m : MethodId} {args : Array Value} {below : List Frame} {meth : Method} {c : Code} {D : va_G} {ct : Nat → ClassId} {ad : Nat → Nat → Nat} {L : List (Nat × Nat)} {φ : Nat → Nat → Nat → Bool} {N0 : Nat}
variable {Q : Int → St → Prop}
theorem pd_J9_floorDiv_7cf53 : yJ9_floorDiv_7cf53.cls ≠ "java/lang/invoke/MethodHandle" ∧ yJ9_floorDiv_7cf53.cls ≠ "java/lang/invoke/VarHandle" ∧ (parseMethodDescriptor yJ9_floorDiv_7cf53.desc).map (fun d => d.parameters.length) = some 2 := by decide +kernel
set_option maxRecDepth 100000 in
set_option maxHeartbeats 4000000 in
theorem c_J9_floorDiv_7cf53 (l : Launch) (D : va_G) (ct : Nat → ClassId) (ad : Nat → Nat → Nat) (L : List (Nat × Nat)) (φ : Nat → Nat → Nat → Bool) (N0 : Nat) (σ : St) (x0 : Int) (x1 : Int) (Q : Int → St → Prop) (hw : wp_J9_floorDiv_7cf53 σ x0 x1 Q) : Met l yJ9_floorDiv_7cf53 (.code yJ9_floorDiv_7cf53 cJ9_floorDiv_7cf53 3 (some .int) :: gw) ({ frames := 0, cells := 0, slots := 0, locals := 0 } : Room) (Pm D ct ad L φ N0 σ [.int (iv x0), .int (iv x1)]) (Qi D ct ad L φ N0 Q) 0 0 (AA N0) := by
  refine m_ofF (by decide +kernel) (fun p e s m below meth c X hnm h => ?_)
  have hF := X.2.2.2.2.2.2.2.2.1
  have hl := lv_entry ([.int (iv x0), .int (iv x1)]) (n := 3) (Nat.le_of_ble_eq_true rfl)
  rw [lg_entry_eq]
  generalize (lg_sl ([.int (iv x0), .int (iv x1)]) ++ List.replicate (3 - (lg_sl ([.int (iv x0), .int (iv x1)])).length) Slot.unset).toArray = ls at hl ⊢
  have hl : lv_has ls 3 [(0, .int (iv x0)), (1, .int (iv x1))] := hl
  have h : Hs D ct ad L φ N0 s.heap σ s.heap [] := h
  unfold wp_J9_floorDiv_7cf53 at hw
  refine lv_iload_n X.1 X.2.1 dJ9_floorDiv_7cf53_0 rfl (lv_at hl 0 rfl) ?_
  refine lv_iload_n X.1 X.2.1 dJ9_floorDiv_7cf53_1 rfl (lv_at hl 1 rfl) ?_
  obtain ⟨g_1, g_2, g_3, g_4, hw⟩ := hw
  refine j_idiv X g_1 g_2 g_3 g_4 dJ9_floorDiv_7cf53_2 ?_
  refine j_bind (fun v_5 ev_5 => ?_)
  have hw := hw v_5 ev_5
  refine lv_istore_n (lv' := [(2, .int (iv v_5)), (0, .int (iv x0)), (1, .int (iv x1))]) X.1 X.2.1 dJ9_floorDiv_7cf53_3 rfl hl (by decide) rfl (fun ls hl => ?_)
  refine lv_iload_n X.1 X.2.1 dJ9_floorDiv_7cf53_4 rfl (lv_at hl 1 rfl) ?_
  refine lv_iload_n X.1 X.2.1 dJ9_floorDiv_7cf53_5 rfl (lv_at hl 2 rfl) ?_
  refine j_ixor X dJ9_floorDiv_7cf53_6 ?_
  obtain ⟨g_6, hwt, hwf⟩ := hw
  refine j_if_ge (tgt := 21) X g_6 dJ9_floorDiv_7cf53_7 (by decide) (fun c_10 => ?_) (fun c_10 => ?_)
  · have hw := hwt c_10
    refine lv_iload_n X.1 X.2.1 dJ9_floorDiv_7cf53_21 rfl (lv_at hl 0 rfl) ?_
    exact k_ir X rfl h hw dJ9_floorDiv_7cf53_22
  · have hw := hwf c_10
    refine lv_iload_n X.1 X.2.1 dJ9_floorDiv_7cf53_10 rfl (lv_at hl 0 rfl) ?_
    refine lv_iload_n X.1 X.2.1 dJ9_floorDiv_7cf53_11 rfl (lv_at hl 2 rfl) ?_
    refine j_imul X dJ9_floorDiv_7cf53_12 ?_
    refine lv_iload_n X.1 X.2.1 dJ9_floorDiv_7cf53_13 rfl (lv_at hl 1 rfl) ?_
    obtain ⟨g_7, g_8, hwt, hwf⟩ := hw
    refine j_cmp_eq (tgt := 21) X g_7 g_8 dJ9_floorDiv_7cf53_14 (by decide) (fun c_9 => ?_) (fun c_9 => ?_)
    · have hw := hwt c_9
      refine lv_iload_n X.1 X.2.1 dJ9_floorDiv_7cf53_21 rfl (lv_at hl 0 rfl) ?_
      exact k_ir X rfl h hw dJ9_floorDiv_7cf53_22
    · have hw := hwf c_9
      refine lv_iload_n X.1 X.2.1 dJ9_floorDiv_7cf53_17 rfl (lv_at hl 0 rfl) ?_
      refine j_iconst X dJ9_floorDiv_7cf53_18 ?_
      refine j_isub X dJ9_floorDiv_7cf53_19 ?_
      exact k_ir X rfl h hw dJ9_floorDiv_7cf53_20
end
section
variable {p : Program} {l : Launch} {e : Env} {s : State} {m : MethodId} {args : Array Value} {below : List Frame} {meth : Method} {c : Code} {D : va_G} {ct : Nat → ClassId} {ad : Nat → Nat → Nat} {L : List (Nat × Nat)} {φ : Nat → Nat → Nat → Bool} {N0 : Nat}
variable {Q : Int → St → Prop}
theorem pd_X11_order : yX11_order.cls ≠ "java/lang/invoke/MethodHandle" ∧ yX11_order.cls ≠ "java/lang/invoke/VarHandle" ∧ (parseMethodDescriptor yX11_order.desc).map (fun d => d.parameters.length) = some 5 := by decide +kernel
set_option maxRecDepth 100000 in
set_option maxHeartbeats 4000000 in
theorem c_X11_order (l : Launch) (D : va_G) (ct : Nat → ClassId) (ad : Nat → Nat → Nat) (L : List (Nat × Nat)) (φ : Nat → Nat → Nat → Bool) (N0 : Nat) (σ : St) (x1 : Int) (x2 : Int) (x3 : Int) (x4 : Int) (x5 : Int) (Q : Int → St → Prop) (hw : wp_X11_order σ x1 x2 x3 x4 x5 Q) : Met l yX11_order (.code yX11_order cX11_order 6 (some .int) :: gw) ({ frames := 1, cells := 0, slots := 0, locals := 25 } : Room) (Pm D ct ad L φ N0 σ [.ref (ad 11 0), .int (iv x1), .int (iv x2), .int (iv x3), .int (iv x4), .int (iv x5)]) (Qi D ct ad L φ N0 Q) 0 0 (AA N0) := by
  refine m_of (by decide) (fun p e s m below meth c X hnm h => ?_)
  have hF := X.2.2.2.2.2.2.2.2.1
  have hl := lv_entry ([.ref (ad 11 0), .int (iv x1), .int (iv x2), .int (iv x3), .int (iv x4), .int (iv x5)]) (n := 6) (Nat.le_of_ble_eq_true rfl)
  rw [lg_entry_eq]
  generalize (lg_sl ([.ref (ad 11 0), .int (iv x1), .int (iv x2), .int (iv x3), .int (iv x4), .int (iv x5)]) ++ List.replicate (6 - (lg_sl ([.ref (ad 11 0), .int (iv x1), .int (iv x2), .int (iv x3), .int (iv x4), .int (iv x5)])).length) Slot.unset).toArray = ls at hl ⊢
  have hl : lv_has ls 6 [(0, .ref (ad 11 0)), (1, .int (iv x1)), (2, .int (iv x2)), (3, .int (iv x3)), (4, .int (iv x4)), (5, .int (iv x5))] := hl
  have h : Hs D ct ad L φ N0 s.heap σ s.heap [] := h
  unfold wp_X11_order at hw
  refine lv_iload_n X.1 X.2.1 dX11_order_0 rfl (lv_at hl 1 rfl) ?_
  refine j_iconst X dX11_order_1 ?_
  refine j_bipush X dX11_order_2 (by decide) ?_
  refine k_i h (r_S (As := [.int (iv x1), .int (iv 1), .int (iv 12)]) (rest := []) X h (c_X11_within l D ct ad L φ N0 σ x1 1 12 _ hw) rfl rfl ⟨Nat.le_of_ble_eq_true rfl, Nat.le_of_ble_eq_true rfl⟩ kw_526 kw_527 kw_120 kw_528 pd_X11_within rfl hl.1 rfl (Nat.le_of_ble_eq_true rfl) ⟨Nat.le_of_ble_eq_true rfl, Nat.le_of_ble_eq_true rfl⟩ dX11_order_4) (fun r_2 σ_1 H locs hw h => ?_)
  obtain ⟨g_3, hwt, hwf⟩ := hw
  refine j_if_eq (tgt := 20) X g_3 dX11_order_7 (by decide) (fun c_24 => ?_) (fun c_24 => ?_)
  · have hw := hwt c_24
    refine j_iconst X dX11_order_20 ?_
    exact k_ir X rfl h hw dX11_order_21
  · have hw := hwf c_24
    refine lv_iload_n X.1 X.2.1 dX11_order_10 rfl (lv_at hl 2 rfl) ?_
    refine j_iconst X dX11_order_11 ?_
    refine j_bipush X dX11_order_12 (by decide) ?_
    refine k_i h (r_S (As := [.int (iv x2), .int (iv 2), .int (iv 6)]) (rest := []) X h (c_X11_within l D ct ad L φ N0 σ_1 x2 2 6 _ hw) rfl rfl ⟨Nat.le_of_ble_eq_true rfl, Nat.le_of_ble_eq_true rfl⟩ kw_526 kw_527 kw_120 kw_528 pd_X11_within rfl hl.1 rfl (Nat.le_of_ble_eq_true rfl) ⟨Nat.le_of_ble_eq_true rfl, Nat.le_of_ble_eq_true rfl⟩ dX11_order_14) (fun r_5 σ_4 H locs hw h => ?_)
    obtain ⟨g_6, hwt, hwf⟩ := hw
    refine j_if_ne (tgt := 22) X g_6 dX11_order_17 (by decide) (fun c_23 => ?_) (fun c_23 => ?_)
    · have hw := hwt c_23
      refine lv_iload_n X.1 X.2.1 dX11_order_22 rfl (lv_at hl 3 rfl) ?_
      refine j_iconst X dX11_order_23 ?_
      refine j_bipush X dX11_order_24 (by decide) ?_
      refine k_i h (r_S (As := [.int (iv x3), .int (iv 1), .int (iv 99)]) (rest := []) X h (c_X11_within l D ct ad L φ N0 σ_4 x3 1 99 _ hw) rfl rfl ⟨Nat.le_of_ble_eq_true rfl, Nat.le_of_ble_eq_true rfl⟩ kw_526 kw_527 kw_120 kw_528 pd_X11_within rfl hl.1 rfl (Nat.le_of_ble_eq_true rfl) ⟨Nat.le_of_ble_eq_true rfl, Nat.le_of_ble_eq_true rfl⟩ dX11_order_26) (fun r_8 σ_7 H locs hw h => ?_)
      obtain ⟨g_9, hwt, hwf⟩ := hw
      refine j_if_eq (tgt := 43) X g_9 dX11_order_29 (by decide) (fun c_22 => ?_) (fun c_22 => ?_)
      · have hw := hwt c_22
        refine j_iconst X dX11_order_43 ?_
        exact k_ir X rfl h hw dX11_order_44
      · have hw := hwf c_22
        refine lv_iload X.1 X.2.1 dX11_order_32 (lv_at hl 4 rfl) ?_
        refine j_iconst X dX11_order_34 ?_
        refine j_bipush X dX11_order_35 (by decide) ?_
        refine k_i h (r_S (As := [.int (iv x4), .int (iv 1), .int (iv 99)]) (rest := []) X h (c_X11_within l D ct ad L φ N0 σ_7 x4 1 99 _ hw) rfl rfl ⟨Nat.le_of_ble_eq_true rfl, Nat.le_of_ble_eq_true rfl⟩ kw_526 kw_527 kw_120 kw_528 pd_X11_within rfl hl.1 rfl (Nat.le_of_ble_eq_true rfl) ⟨Nat.le_of_ble_eq_true rfl, Nat.le_of_ble_eq_true rfl⟩ dX11_order_37) (fun r_11 σ_10 H locs hw h => ?_)
        obtain ⟨g_12, hwt, hwf⟩ := hw
        refine j_if_ne (tgt := 45) X g_12 dX11_order_40 (by decide) (fun c_21 => ?_) (fun c_21 => ?_)
        · have hw := hwt c_21
          refine lv_iload X.1 X.2.1 dX11_order_45 (lv_at hl 5 rfl) ?_
          refine lv_aload_n X.1 X.2.1 dX11_order_47 rfl (lv_at hl 0 rfl) ?_
          refine r_getR (ci := 11) X inw_11 h (hF.1 11 rfl).1 rfl rfl 0 (by decide) kw_458 rfl ((hF.1 11 rfl).2 0) dX11_order_48 ?_
          refine r_getN (ci := 7) X inw_7 h (hF.1 7 rfl).1 rfl rfl 3 (by decide) kw_164 rfl dX11_order_51 ?_
          refine j_sipush X dX11_order_54 (by decide) ?_
          refine k_i h (r_S (As := [.int (iv x5), .int (iv (σ_10 7 0 3)), .int (iv 3999)]) (rest := []) X h (c_X11_within l D ct ad L φ N0 σ_10 x5 (σ_10 7 0 3) 3999 _ hw) rfl rfl ⟨Nat.le_of_ble_eq_true rfl, Nat.le_of_ble_eq_true rfl⟩ kw_526 kw_527 kw_120 kw_528 pd_X11_within rfl hl.1 rfl (Nat.le_of_ble_eq_true rfl) ⟨Nat.le_of_ble_eq_true rfl, Nat.le_of_ble_eq_true rfl⟩ dX11_order_57) (fun r_14 σ_13 H locs hw h => ?_)
          obtain ⟨g_15, hwt, hwf⟩ := hw
          refine j_if_eq (tgt := 75) X g_15 dX11_order_60 (by decide) (fun c_20 => ?_) (fun c_20 => ?_)
          · have hw := hwt c_20
            refine j_iconst X dX11_order_75 ?_
            exact k_ir X rfl h hw dX11_order_76
          · have hw := hwf c_20
            refine lv_aload_n X.1 X.2.1 dX11_order_63 rfl (lv_at hl 0 rfl) ?_
            refine r_getR (ci := 11) X inw_11 h (hF.1 11 rfl).1 rfl rfl 17 (by decide) kw_475 rfl ((hF.1 11 rfl).2 17) dX11_order_64 ?_
            refine r_getN (ci := 6) X inw_6 h (hF.1 6 rfl).1 rfl rfl 6 (by decide) kw_343 rfl dX11_order_67 ?_
            refine j_bipush X dX11_order_70 (by decide) ?_
            obtain ⟨g_16, hwt, hwf⟩ := hw
            refine j_cmp_lt (tgt := 77) X g_16 ⟨by decide, by decide⟩ dX11_order_72 (by decide) (fun c_19 => ?_) (fun c_19 => ?_)
            · have hw := hwt c_19
              refine lv_aload_n X.1 X.2.1 dX11_order_77 rfl (lv_at hl 0 rfl) ?_
              refine r_getR (ci := 11) X inw_11 h (hF.1 11 rfl).1 rfl rfl 17 (by decide) kw_475 rfl ((hF.1 11 rfl).2 17) dX11_order_78 ?_
              refine lv_iload_n X.1 X.2.1 dX11_order_81 rfl (lv_at hl 1 rfl) ?_
              refine lv_iload_n X.1 X.2.1 dX11_order_82 rfl (lv_at hl 2 rfl) ?_
              refine lv_iload_n X.1 X.2.1 dX11_order_83 rfl (lv_at hl 3 rfl) ?_
              refine lv_iload X.1 X.2.1 dX11_order_84 (lv_at hl 4 rfl) ?_
              refine lv_iload X.1 X.2.1 dX11_order_86 (lv_at hl 5 rfl) ?_
              refine k_i h (r_V (C := RX6) (ci := 6) (As := [.int (iv x1), .int (iv x2), .int (iv x3), .int (iv x4), .int (iv x5)]) (rest := []) X h (c_X6_add l D ct ad L φ N0 σ_13 x1 x2 x3 x4 x5 _ hw) rfl rfl ⟨Nat.le_of_ble_eq_true rfl, Nat.le_of_ble_eq_true rfl⟩ kw_1247 kw_1248 kw_1249 kw_126 kw_1250 ⟨rfl, pd_X6_add⟩ (hF.1 6 rfl).1 rfl rfl rfl hl.1 rfl (Nat.le_of_ble_eq_true rfl) ⟨Nat.le_of_ble_eq_true rfl, Nat.le_of_ble_eq_true rfl⟩ dX11_order_88) (fun r_18 σ_17 H locs hw h => ?_)
              exact k_ir X rfl h hw dX11_order_91
            · have hw := hwf c_19
              refine j_iconst X dX11_order_75 ?_
              exact k_ir X rfl h hw dX11_order_76
        · have hw := hwf c_21
          refine j_iconst X dX11_order_43 ?_
          exact k_ir X rfl h hw dX11_order_44
    · have hw := hwf c_23
      refine j_iconst X dX11_order_20 ?_
      exact k_ir X rfl h hw dX11_order_21
end
section
variable {p : Program} {l : Launch} {e : Env} {s : State} {m : MethodId} {args : Array Value} {below : List Frame} {meth : Method} {c : Code} {D : va_G} {ct : Nat → ClassId} {ad : Nat → Nat → Nat} {L : List (Nat × Nat)} {φ : Nat → Nat → Nat → Bool} {N0 : Nat}
variable {Q : Option Nat → St → Prop}
theorem pd_X11_pondLogAt : yX11_pondLogAt.cls ≠ "java/lang/invoke/MethodHandle" ∧ yX11_pondLogAt.cls ≠ "java/lang/invoke/VarHandle" ∧ (parseMethodDescriptor yX11_pondLogAt.desc).map (fun d => d.parameters.length) = some 1 := by decide +kernel
set_option maxRecDepth 100000 in
set_option maxHeartbeats 4000000 in
theorem c_X11_pondLogAt (l : Launch) (D : va_G) (ct : Nat → ClassId) (ad : Nat → Nat → Nat) (L : List (Nat × Nat)) (φ : Nat → Nat → Nat → Bool) (N0 : Nat) (σ : St) (x1 : Int) (Q : Option Nat → St → Prop) (hw : wp_X11_pondLogAt σ x1 Q) : Met l yX11_pondLogAt (.code yX11_pondLogAt cX11_pondLogAt 3 (some (.object "TimberValley$Log")) :: gw) ({ frames := 2, cells := 0, slots := 0, locals := 43 } : Room) (Pm D ct ad L φ N0 σ [.ref (ad 11 0), .int (iv x1)]) (Qo D ct ad L φ N0 4 Q) 0 0 (AA N0) := by
  refine m_of (by decide) (fun p e s m below meth c X hnm h => ?_)
  have hF := X.2.2.2.2.2.2.2.2.1
  have hl := lv_entry ([.ref (ad 11 0), .int (iv x1)]) (n := 3) (Nat.le_of_ble_eq_true rfl)
  rw [lg_entry_eq]
  generalize (lg_sl ([.ref (ad 11 0), .int (iv x1)]) ++ List.replicate (3 - (lg_sl ([.ref (ad 11 0), .int (iv x1)])).length) Slot.unset).toArray = ls at hl ⊢
  have hl : lv_has ls 3 [(0, .ref (ad 11 0)), (1, .int (iv x1))] := hl
  have h : Hs D ct ad L φ N0 s.heap σ s.heap [] := h
  unfold wp_X11_pondLogAt at hw
  refine lv_aload_n X.1 X.2.1 dX11_pondLogAt_0 rfl (lv_at hl 0 rfl) ?_
  refine lv_iload_n X.1 X.2.1 dX11_pondLogAt_1 rfl (lv_at hl 1 rfl) ?_
  refine k_o h (r_V (C := RX11) (ci := 11) (As := [.int (iv x1)]) (rest := []) X h (c_X11_logAt l D ct ad L φ N0 σ x1 _ hw) rfl rfl ⟨Nat.le_of_ble_eq_true rfl, Nat.le_of_ble_eq_true rfl⟩ kw_794 kw_796 kw_12 kw_120 kw_797 ⟨rfl, pd_X11_logAt⟩ (hF.1 11 rfl).1 rfl rfl rfl hl.1 rfl (Nat.le_of_ble_eq_true rfl) ⟨Nat.le_of_ble_eq_true rfl, Nat.le_of_ble_eq_true rfl⟩ dX11_pondLogAt_2) (fun o_6 σ_1 H locs hw h => ?_)
  cases o_6 with
  | none =>
    refine lv_astore_nN (lv' := [(2, .null), (0, .ref (ad 11 0)), (1, .int (iv x1))]) X.1 X.2.1 dX11_pondLogAt_5 rfl hl (by decide) rfl (fun ls hl => ?_)
    refine lv_aload_nN X.1 X.2.1 dX11_pondLogAt_6 rfl (lv_at hl 0 rfl) ?_
    refine lv_ifnullN (tgt := 22) X.1 X.2.1 dX11_pondLogAt_7 (by decide) ?_
    refine lv_null X.1 X.2.1 dX11_pondLogAt_22 ?_
    exact k_on X h hw dX11_pondLogAt_23
  | some j_2 =>
    refine lv_astore_n (lv' := [(2, .ref (ad 4 j_2)), (0, .ref (ad 11 0)), (1, .int (iv x1))]) X.1 X.2.1 dX11_pondLogAt_5 rfl hl (by decide) rfl (fun ls hl => ?_)
    refine lv_aload_n X.1 X.2.1 dX11_pondLogAt_6 rfl (lv_at hl 0 rfl) ?_
    refine lv_ifnull X.1 X.2.1 dX11_pondLogAt_7 ?_
    refine lv_aload_n X.1 X.2.1 dX11_pondLogAt_10 rfl (lv_at hl 0 rfl) ?_
    obtain ⟨g_3, hw⟩ := hw
    refine r_getN (ci := 4) X inw_4 h (h.2.2.1 j_2 g_3).1 rfl rfl 8 (by decide) kw_721 rfl dX11_pondLogAt_11 ?_
    refine j_iconst X dX11_pondLogAt_14 ?_
    obtain ⟨g_4, hwt, hwf⟩ := hw
    refine j_cmp_ne (tgt := 22) X g_4 ⟨by decide, by decide⟩ dX11_pondLogAt_15 (by decide) (fun c_5 => ?_) (fun c_5 => ?_)
    · have hw := hwt c_5
      refine lv_null X.1 X.2.1 dX11_pondLogAt_22 ?_
      exact k_on X h hw dX11_pondLogAt_23
    · have hw := hwf c_5
      refine lv_aload_n X.1 X.2.1 dX11_pondLogAt_18 rfl (lv_at hl 0 rfl) ?_
      refine lv_goto (tgt := 23) X.1 X.2.1 dX11_pondLogAt_19 (by decide) ?_
      exact k_os X h hw dX11_pondLogAt_23
end
section
variable {p : Program} {l : Launch} {e : Env} {s : State} {m : MethodId} {args : Array Value} {below : List Frame} {meth : Method} {c : Code} {D : va_G} {ct : Nat → ClassId} {ad : Nat → Nat → Nat} {L : List (Nat × Nat)} {φ : Nat → Nat → Nat → Bool} {N0 : Nat}
variable {Q : Int → St → Prop}
theorem pd_X11_best : yX11_best.cls ≠ "java/lang/invoke/MethodHandle" ∧ yX11_best.cls ≠ "java/lang/invoke/VarHandle" ∧ (parseMethodDescriptor yX11_best.desc).map (fun d => d.parameters.length) = some 1 := by decide +kernel
set_option maxRecDepth 100000 in
set_option maxHeartbeats 4000000 in
theorem c_X11_best (l : Launch) (D : va_G) (ct : Nat → ClassId) (ad : Nat → Nat → Nat) (L : List (Nat × Nat)) (φ : Nat → Nat → Nat → Bool) (N0 : Nat) (σ : St) (x1 : Int) (Q : Int → St → Prop) (hw : wp_X11_best σ x1 Q) : Met l yX11_best (.code yX11_best cX11_best 3 (some .int) :: gw) ({ frames := 4, cells := 0, slots := 0, locals := 95 } : Room) (Pm D ct ad L φ N0 σ [.ref (ad 11 0), .int (iv x1)]) (Qi D ct ad L φ N0 Q) 0 0 (AA N0) := by
  refine m_of (by decide) (fun p e s m below meth c X hnm h => ?_)
  have hF := X.2.2.2.2.2.2.2.2.1
  have hl := lv_entry ([.ref (ad 11 0), .int (iv x1)]) (n := 3) (Nat.le_of_ble_eq_true rfl)
  rw [lg_entry_eq]
  generalize (lg_sl ([.ref (ad 11 0), .int (iv x1)]) ++ List.replicate (3 - (lg_sl ([.ref (ad 11 0), .int (iv x1)])).length) Slot.unset).toArray = ls at hl ⊢
  have hl : lv_has ls 3 [(0, .ref (ad 11 0)), (1, .int (iv x1))] := hl
  have h : Hs D ct ad L φ N0 s.heap σ s.heap [] := h
  unfold wp_X11_best at hw
  refine lv_aload_n X.1 X.2.1 dX11_best_0 rfl (lv_at hl 0 rfl) ?_
  refine lv_iload_n X.1 X.2.1 dX11_best_1 rfl (lv_at hl 1 rfl) ?_
  refine k_o h (r_V (C := RX11) (ci := 11) (As := [.int (iv x1)]) (rest := []) X h (c_X11_pondLogAt l D ct ad L φ N0 σ x1 _ hw) rfl rfl ⟨Nat.le_of_ble_eq_true rfl, Nat.le_of_ble_eq_true rfl⟩ kw_1255 kw_1257 kw_38 kw_120 kw_1258 ⟨rfl, pd_X11_pondLogAt⟩ (hF.1 11 rfl).1 rfl rfl rfl hl.1 rfl (Nat.le_of_ble_eq_true rfl) ⟨Nat.le_of_ble_eq_true rfl, Nat.le_of_ble_eq_true rfl⟩ dX11_best_2) (fun o_4 σ_1 H locs hw h => ?_)
  cases o_4 with
  | none =>
    refine lv_astore_nN (lv' := [(2, .null), (0, .ref (ad 11 0)), (1, .int (iv x1))]) X.1 X.2.1 dX11_best_5 rfl hl (by decide) rfl (fun ls hl => ?_)
    refine lv_aload_nN X.1 X.2.1 dX11_best_6 rfl (lv_at hl 0 rfl) ?_
    refine lv_ifnonnullN X.1 X.2.1 dX11_best_7 ?_
    refine j_iconst X dX11_best_10 ?_
    exact k_ir X rfl h hw dX11_best_11
  | some j_2 =>
    refine lv_astore_n (lv' := [(2, .ref (ad 4 j_2)), (0, .ref (ad 11 0)), (1, .int (iv x1))]) X.1 X.2.1 dX11_best_5 rfl hl (by decide) rfl (fun ls hl => ?_)
    refine lv_aload_n X.1 X.2.1 dX11_best_6 rfl (lv_at hl 0 rfl) ?_
    refine lv_ifnonnull (tgt := 12) X.1 X.2.1 dX11_best_7 (by decide) ?_
    refine lv_aload_n X.1 X.2.1 dX11_best_12 rfl (lv_at hl 1 rfl) ?_
    refine r_getR (ci := 11) X inw_11 h (hF.1 11 rfl).1 rfl rfl 17 (by decide) kw_475 rfl ((hF.1 11 rfl).2 17) dX11_best_13 ?_
    refine lv_aload_n X.1 X.2.1 dX11_best_16 rfl (lv_at hl 0 rfl) ?_
    refine lv_aload_n X.1 X.2.1 dX11_best_17 rfl (lv_at hl 1 rfl) ?_
    refine r_getR (ci := 11) X inw_11 h (hF.1 11 rfl).1 rfl rfl 0 (by decide) kw_458 rfl ((hF.1 11 rfl).2 0) dX11_best_18 ?_
    refine r_getN (ci := 7) X inw_7 h (hF.1 7 rfl).1 rfl rfl 3 (by decide) kw_164 rfl dX11_best_21 ?_
    refine k_v h (r_V (C := RX6) (ci := 6) (As := [.ref (ad 4 j_2), .int (iv (σ_1 7 0 3))]) (rest := []) X h (c_X6_plan l D ct ad L φ N0 σ_1 j_2 (σ_1 7 0 3) _ hw) rfl rfl ⟨Nat.le_of_ble_eq_true rfl, Nat.le_of_ble_eq_true rfl⟩ kw_1259 kw_1260 kw_1261 kw_126 kw_1262 ⟨rfl, pd_X6_plan⟩ (hF.1 6 rfl).1 rfl rfl rfl hl.1 rfl (Nat.le_of_ble_eq_true rfl) ⟨Nat.le_of_ble_eq_true rfl, Nat.le_of_ble_eq_true rfl⟩ dX11_best_24) (fun σ_3 H locs hw h => ?_)
    refine lv_aload_n X.1 X.2.1 dX11_best_27 rfl (lv_at hl 1 rfl) ?_
    refine r_getR (ci := 11) X inw_11 h (hF.1 11 rfl).1 rfl rfl 17 (by decide) kw_475 rfl ((hF.1 11 rfl).2 17) dX11_best_28 ?_
    refine r_getRN (ci := 6) X inw_6 h (hF.1 6 rfl).1 rfl rfl 8 (by decide) kw_347 rfl ((hF.1 6 rfl).2 8) dX11_best_31 ?_
    refine j_iconst X dX11_best_34 ?_
    refine r_iald (n := 35) X h (hF.1 61 rfl).1 rfl (by decide) (by decide) (by decide) dX11_best_35 ?_
    exact k_ir X rfl h hw dX11_best_36
end
section
variable {p : Program} {l : Launch} {e : Env} {s : State} {m : MethodId} {args : Array Value} {below : List Frame} {meth : Method} {c : Code} {D : va_G} {ct : Nat → ClassId} {ad : Nat → Nat → Nat} {L : List (Nat × Nat)} {φ : Nat → Nat → Nat → Bool} {N0 : Nat}
variable {Q : Int → St → Prop}
theorem pd_X11_board : yX11_board.cls ≠ "java/lang/invoke/MethodHandle" ∧ yX11_board.cls ≠ "java/lang/invoke/VarHandle" ∧ (parseMethodDescriptor yX11_board.desc).map (fun d => d.parameters.length) = some 2 := by decide +kernel
set_option maxRecDepth 100000 in
set_option maxHeartbeats 4000000 in
theorem c_X11_board (l : Launch) (D : va_G) (ct : Nat → ClassId) (ad : Nat → Nat → Nat) (L : List (Nat × Nat)) (φ : Nat → Nat → Nat → Bool) (N0 : Nat) (σ : St) (x1 : Int) (x2 : Int) (Q : Int → St → Prop) (hw : wp_X11_board σ x1 x2 Q) : Met l yX11_board (.code yX11_board cX11_board 4 (some .int) :: gw) ({ frames := 4, cells := 0, slots := 0, locals := 95 } : Room) (Pm D ct ad L φ N0 σ [.ref (ad 11 0), .int (iv x1), .int (iv x2)]) (Qi D ct ad L φ N0 Q) 0 0 (AA N0) := by
  refine m_of (by decide) (fun p e s m below meth c X hnm h => ?_)
  have hF := X.2.2.2.2.2.2.2.2.1
  have hl := lv_entry ([.ref (ad 11 0), .int (iv x1), .int (iv x2)]) (n := 4) (Nat.le_of_ble_eq_true rfl)
  rw [lg_entry_eq]
  generalize (lg_sl ([.ref (ad 11 0), .int (iv x1), .int (iv x2)]) ++ List.replicate (4 - (lg_sl ([.ref (ad 11 0), .int (iv x1), .int (iv x2)])).length) Slot.unset).toArray = ls at hl ⊢
  have hl : lv_has ls 4 [(0, .ref (ad 11 0)), (1, .int (iv x1)), (2, .int (iv x2))] := hl
  have h : Hs D ct ad L φ N0 s.heap σ s.heap [] := h
  unfold wp_X11_board at hw
  refine lv_aload_n X.1 X.2.1 dX11_board_0 rfl (lv_at hl 0 rfl) ?_
  refine lv_iload_n X.1 X.2.1 dX11_board_1 rfl (lv_at hl 1 rfl) ?_
  refine k_o h (r_V (C := RX11) (ci := 11) (As := [.int (iv x1)]) (rest := []) X h (c_X11_pondLogAt l D ct ad L φ N0 σ x1 _ hw) rfl rfl ⟨Nat.le_of_ble_eq_true rfl, Nat.le_of_ble_eq_true rfl⟩ kw_1255 kw_1257 kw_38 kw_120 kw_1258 ⟨rfl, pd_X11_pondLogAt⟩ (hF.1 11 rfl).1 rfl rfl rfl hl.1 rfl (Nat.le_of_ble_eq_true rfl) ⟨Nat.le_of_ble_eq_true rfl, Nat.le_of_ble_eq_true rfl⟩ dX11_board_2) (fun o_11 σ_1 H locs hw h => ?_)
  cases o_11 with
  | none =>
    refine lv_astore_nN (lv' := [(3, .null), (0, .ref (ad 11 0)), (1, .int (iv x1)), (2, .int (iv x2))]) X.1 X.2.1 dX11_board_5 rfl hl (by decide) rfl (fun ls hl => ?_)
    refine lv_aload_nN X.1 X.2.1 dX11_board_6 rfl (lv_at hl 0 rfl) ?_
    refine lv_ifnullN (tgt := 24) X.1 X.2.1 dX11_board_7 (by decide) ?_
    refine j_iconst X dX11_board_24 ?_
    exact k_ir X rfl h hw dX11_board_25
  | some j_2 =>
    refine lv_astore_n (lv' := [(3, .ref (ad 4 j_2)), (0, .ref (ad 11 0)), (1, .int (iv x1)), (2, .int (iv x2))]) X.1 X.2.1 dX11_board_5 rfl hl (by decide) rfl (fun ls hl => ?_)
    refine lv_aload_n X.1 X.2.1 dX11_board_6 rfl (lv_at hl 0 rfl) ?_
    refine lv_ifnull X.1 X.2.1 dX11_board_7 ?_
    refine lv_iload_n X.1 X.2.1 dX11_board_10 rfl (lv_at hl 3 rfl) ?_
    refine j_iconst X dX11_board_11 ?_
    refine lv_aload_n X.1 X.2.1 dX11_board_12 rfl (lv_at hl 0 rfl) ?_
    obtain ⟨g_3, hw⟩ := hw
    refine r_getN (ci := 4) X inw_4 h (h.2.2.1 j_2 g_3).1 rfl rfl 2 (by decide) kw_711 rfl dX11_board_13 ?_
    refine j_iconst X dX11_board_16 ?_
    refine j_isub X dX11_board_17 ?_
    refine k_i h (r_S (As := [.int (iv x2), .int (iv 0), .int (iv ((σ_1 4 j_2 2) - 1))]) (rest := []) X h (c_X11_within l D ct ad L φ N0 σ_1 x2 0 ((σ_1 4 j_2 2) - 1) _ hw) rfl rfl ⟨Nat.le_of_ble_eq_true rfl, Nat.le_of_ble_eq_true rfl⟩ kw_526 kw_527 kw_120 kw_528 pd_X11_within rfl hl.1 rfl (Nat.le_of_ble_eq_true rfl) ⟨Nat.le_of_ble_eq_true rfl, Nat.le_of_ble_eq_true rfl⟩ dX11_board_18) (fun r_5 σ_4 H locs hw h => ?_)
    obtain ⟨g_6, hwt, hwf⟩ := hw
    refine j_if_ne (tgt := 26) X g_6 dX11_board_21 (by decide) (fun c_10 => ?_) (fun c_10 => ?_)
    · have hw := hwt c_10
      refine lv_aload_n X.1 X.2.1 dX11_board_26 rfl (lv_at hl 1 rfl) ?_
      refine r_getR (ci := 11) X inw_11 h (hF.1 11 rfl).1 rfl rfl 17 (by decide) kw_475 rfl ((hF.1 11 rfl).2 17) dX11_board_27 ?_
      refine lv_aload_n X.1 X.2.1 dX11_board_30 rfl (lv_at hl 0 rfl) ?_
      refine lv_aload_n X.1 X.2.1 dX11_board_31 rfl (lv_at hl 1 rfl) ?_
      refine r_getR (ci := 11) X inw_11 h (hF.1 11 rfl).1 rfl rfl 0 (by decide) kw_458 rfl ((hF.1 11 rfl).2 0) dX11_board_32 ?_
      refine r_getN (ci := 7) X inw_7 h (hF.1 7 rfl).1 rfl rfl 3 (by decide) kw_164 rfl dX11_board_35 ?_
      refine k_v h (r_V (C := RX6) (ci := 6) (As := [.ref (ad 4 j_2), .int (iv (σ_4 7 0 3))]) (rest := []) X h (c_X6_plan l D ct ad L φ N0 σ_4 j_2 (σ_4 7 0 3) _ hw) rfl rfl ⟨Nat.le_of_ble_eq_true rfl, Nat.le_of_ble_eq_true rfl⟩ kw_1259 kw_1260 kw_1261 kw_126 kw_1262 ⟨rfl, pd_X6_plan⟩ (hF.1 6 rfl).1 rfl rfl rfl hl.1 rfl (Nat.le_of_ble_eq_true rfl) ⟨Nat.le_of_ble_eq_true rfl, Nat.le_of_ble_eq_true rfl⟩ dX11_board_38) (fun σ_7 H locs hw h => ?_)
      refine lv_aload_n X.1 X.2.1 dX11_board_41 rfl (lv_at hl 1 rfl) ?_
      refine r_getR (ci := 11) X inw_11 h (hF.1 11 rfl).1 rfl rfl 17 (by decide) kw_475 rfl ((hF.1 11 rfl).2 17) dX11_board_42 ?_
      refine r_getRN (ci := 6) X inw_6 h (hF.1 6 rfl).1 rfl rfl 10 (by decide) kw_350 rfl ((hF.1 6 rfl).2 10) dX11_board_45 ?_
      refine lv_iload_n X.1 X.2.1 dX11_board_48 rfl (lv_at hl 3 rfl) ?_
      obtain ⟨g_8, g_9, hw⟩ := hw
      refine r_iald (n := 35) X h (hF.1 63 rfl).1 rfl (by decide) g_8 g_9 dX11_board_49 ?_
      exact k_ir X rfl h hw dX11_board_50
    · have hw := hwf c_10
      refine j_iconst X dX11_board_24 ?_
      exact k_ir X rfl h hw dX11_board_25
end
section
variable {p : Program} {l : Launch} {e : Env} {s : State} {m : MethodId} {args : Array Value} {below : List Frame} {meth : Method} {c : Code} {D : va_G} {ct : Nat → ClassId} {ad : Nat → Nat → Nat} {L : List (Nat × Nat)} {φ : Nat → Nat → Nat → Bool} {N0 : Nat}
variable {Q : Int → St → Prop}
theorem pd_X11_saw : yX11_saw.cls ≠ "java/lang/invoke/MethodHandle" ∧ yX11_saw.cls ≠ "java/lang/invoke/VarHandle" ∧ (parseMethodDescriptor yX11_saw.desc).map (fun d => d.parameters.length) = some 1 := by decide +kernel
set_option maxRecDepth 100000 in
set_option maxHeartbeats 4000000 in
theorem c_X11_saw (l : Launch) (D : va_G) (ct : Nat → ClassId) (ad : Nat → Nat → Nat) (L : List (Nat × Nat)) (φ : Nat → Nat → Nat → Bool) (N0 : Nat) (σ : St) (x1 : Int) (Q : Int → St → Prop) (hw : wp_X11_saw σ x1 Q) : Met l yX11_saw (.code yX11_saw cX11_saw 4 (some .int) :: gw) ({ frames := 4, cells := 0, slots := 0, locals := 95 } : Room) (Pm D ct ad L φ N0 σ [.ref (ad 11 0), .int (iv x1)]) (Qi D ct ad L φ N0 Q) 0 0 (AA N0) := by
  refine m_of (by decide) (fun p e s m below meth c X hnm h => ?_)
  have hF := X.2.2.2.2.2.2.2.2.1
  have hl := lv_entry ([.ref (ad 11 0), .int (iv x1)]) (n := 4) (Nat.le_of_ble_eq_true rfl)
  rw [lg_entry_eq]
  generalize (lg_sl ([.ref (ad 11 0), .int (iv x1)]) ++ List.replicate (4 - (lg_sl ([.ref (ad 11 0), .int (iv x1)])).length) Slot.unset).toArray = ls at hl ⊢
  have hl : lv_has ls 4 [(0, .ref (ad 11 0)), (1, .int (iv x1))] := hl
  have h : Hs D ct ad L φ N0 s.heap σ s.heap [] := h
  unfold wp_X11_saw at hw
  refine lv_aload_n X.1 X.2.1 dX11_saw_0 rfl (lv_at hl 0 rfl) ?_
  refine lv_iload_n X.1 X.2.1 dX11_saw_1 rfl (lv_at hl 1 rfl) ?_
  refine k_o h (r_V (C := RX11) (ci := 11) (As := [.int (iv x1)]) (rest := []) X h (c_X11_pondLogAt l D ct ad L φ N0 σ x1 _ hw) rfl rfl ⟨Nat.le_of_ble_eq_true rfl, Nat.le_of_ble_eq_true rfl⟩ kw_1255 kw_1257 kw_38 kw_120 kw_1258 ⟨rfl, pd_X11_pondLogAt⟩ (hF.1 11 rfl).1 rfl rfl rfl hl.1 rfl (Nat.le_of_ble_eq_true rfl) ⟨Nat.le_of_ble_eq_true rfl, Nat.le_of_ble_eq_true rfl⟩ dX11_saw_2) (fun o_8 σ_1 H locs hw h => ?_)
  cases o_8 with
  | none =>
    refine lv_astore_nN (lv' := [(2, .null), (0, .ref (ad 11 0)), (1, .int (iv x1))]) X.1 X.2.1 dX11_saw_5 rfl hl (by decide) rfl (fun ls hl => ?_)
    refine lv_aload_nN X.1 X.2.1 dX11_saw_6 rfl (lv_at hl 0 rfl) ?_
    refine lv_ifnonnullN X.1 X.2.1 dX11_saw_7 ?_
    refine j_iconst X dX11_saw_10 ?_
    exact k_ir X rfl h hw dX11_saw_11
  | some j_2 =>
    refine lv_astore_n (lv' := [(2, .ref (ad 4 j_2)), (0, .ref (ad 11 0)), (1, .int (iv x1))]) X.1 X.2.1 dX11_saw_5 rfl hl (by decide) rfl (fun ls hl => ?_)
    refine lv_aload_n X.1 X.2.1 dX11_saw_6 rfl (lv_at hl 0 rfl) ?_
    refine lv_ifnonnull (tgt := 12) X.1 X.2.1 dX11_saw_7 (by decide) ?_
    refine lv_aload_n X.1 X.2.1 dX11_saw_12 rfl (lv_at hl 1 rfl) ?_
    refine r_getR (ci := 11) X inw_11 h (hF.1 11 rfl).1 rfl rfl 17 (by decide) kw_475 rfl ((hF.1 11 rfl).2 17) dX11_saw_13 ?_
    refine lv_aload_n X.1 X.2.1 dX11_saw_16 rfl (lv_at hl 0 rfl) ?_
    refine lv_aload_n X.1 X.2.1 dX11_saw_17 rfl (lv_at hl 1 rfl) ?_
    refine r_getR (ci := 11) X inw_11 h (hF.1 11 rfl).1 rfl rfl 0 (by decide) kw_458 rfl ((hF.1 11 rfl).2 0) dX11_saw_18 ?_
    refine r_getN (ci := 7) X inw_7 h (hF.1 7 rfl).1 rfl rfl 3 (by decide) kw_164 rfl dX11_saw_21 ?_
    refine k_v h (r_V (C := RX6) (ci := 6) (As := [.ref (ad 4 j_2), .int (iv (σ_1 7 0 3))]) (rest := []) X h (c_X6_plan l D ct ad L φ N0 σ_1 j_2 (σ_1 7 0 3) _ hw) rfl rfl ⟨Nat.le_of_ble_eq_true rfl, Nat.le_of_ble_eq_true rfl⟩ kw_1259 kw_1260 kw_1261 kw_126 kw_1262 ⟨rfl, pd_X6_plan⟩ (hF.1 6 rfl).1 rfl rfl rfl hl.1 rfl (Nat.le_of_ble_eq_true rfl) ⟨Nat.le_of_ble_eq_true rfl, Nat.le_of_ble_eq_true rfl⟩ dX11_saw_24) (fun σ_3 H locs hw h => ?_)
    refine lv_aload_n X.1 X.2.1 dX11_saw_27 rfl (lv_at hl 1 rfl) ?_
    refine r_getR (ci := 11) X inw_11 h (hF.1 11 rfl).1 rfl rfl 17 (by decide) kw_475 rfl ((hF.1 11 rfl).2 17) dX11_saw_28 ?_
    refine lv_aload_n X.1 X.2.1 dX11_saw_31 rfl (lv_at hl 0 rfl) ?_
    obtain ⟨g_4, hw⟩ := hw
    refine r_getN (ci := 4) X inw_4 h (h.2.2.1 j_2 g_4).1 rfl rfl 2 (by decide) kw_711 rfl dX11_saw_32 ?_
    refine lv_aload_n X.1 X.2.1 dX11_saw_35 rfl (lv_at hl 1 rfl) ?_
    refine r_getR (ci := 11) X inw_11 h (hF.1 11 rfl).1 rfl rfl 0 (by decide) kw_458 rfl ((hF.1 11 rfl).2 0) dX11_saw_36 ?_
    refine r_getN (ci := 7) X inw_7 h (hF.1 7 rfl).1 rfl rfl 3 (by decide) kw_164 rfl dX11_saw_39 ?_
    refine k_i h (r_V (C := RX6) (ci := 6) (As := [.int (iv (σ_3 4 j_2 2)), .int (iv (σ_3 7 0 3))]) (rest := []) X h (c_X6_deliver l D ct ad L φ N0 σ_3 (σ_3 4 j_2 2) (σ_3 7 0 3) _ hw) rfl rfl ⟨Nat.le_of_ble_eq_true rfl, Nat.le_of_ble_eq_true rfl⟩ kw_1288 kw_1289 kw_1290 kw_126 kw_1291 ⟨rfl, pd_X6_deliver⟩ (hF.1 6 rfl).1 rfl rfl rfl hl.1 rfl (Nat.le_of_ble_eq_true rfl) ⟨Nat.le_of_ble_eq_true rfl, Nat.le_of_ble_eq_true rfl⟩ dX11_saw_42) (fun r_6 σ_5 H locs hw h => ?_)
    refine lv_istore_n (lv' := [(3, .int (iv r_6)), (2, .ref (ad 4 j_2)), (0, .ref (ad 11 0)), (1, .int (iv x1))]) X.1 X.2.1 dX11_saw_45 rfl hl (by decide) rfl (fun ls hl => ?_)
    refine lv_aload_n X.1 X.2.1 dX11_saw_46 rfl (lv_at hl 2 rfl) ?_
    refine lv_aload_n X.1 X.2.1 dX11_saw_47 rfl (lv_at hl 1 rfl) ?_
    refine j_iconst X dX11_saw_48 ?_
    refine k_v h (r_V (C := RX11) (ci := 11) (As := [.ref (ad 4 j_2), .int (iv 2)]) (rest := []) X h (c_X11_become l D ct ad L φ N0 σ_5 j_2 2 _ hw) rfl rfl ⟨Nat.le_of_ble_eq_true rfl, Nat.le_of_ble_eq_true rfl⟩ kw_772 kw_774 kw_11 kw_120 kw_775 ⟨rfl, pd_X11_become⟩ (hF.1 11 rfl).1 rfl rfl rfl hl.1 rfl (Nat.le_of_ble_eq_true rfl) ⟨Nat.le_of_ble_eq_true rfl, Nat.le_of_ble_eq_true rfl⟩ dX11_saw_49) (fun σ_7 H locs hw h => ?_)
    refine lv_iload_n X.1 X.2.1 dX11_saw_52 rfl (lv_at hl 0 rfl) ?_
    exact k_ir X rfl h hw dX11_saw_53
end
section
variable {p : Program} {l : Launch} {e : Env} {s : State} {m : MethodId} {args : Array Value} {below : List Frame} {meth : Method} {c : Code} {D : va_G} {ct : Nat → ClassId} {ad : Nat → Nat → Nat} {L : List (Nat × Nat)} {φ : Nat → Nat → Nat → Bool} {N0 : Nat}
variable {Q : Int → St → Prop}
set_option maxRecDepth 100000 in
set_option maxHeartbeats 4000000 in
theorem lb_X11_burnFrom_84 (X : Cx p s m meth c args cX11_burnFrom 7 (some .int) RX11 D ct L φ N0) {K30 : St → Int → Int → Prop} (hK30 : ∀ (σ : St) (x4 : Int) (x5 : Int) (H : Heap) (locs : List Loc) (ls : Array Slot), K30 σ x4 x5 → Hs D ct ad L φ N0 s.heap σ H locs → lv_has ls 7 [(0, .ref (ad 11 0)), (4, .int (iv x4)), (5, .int (iv x5))] → W p l e ({ frames := 4, cells := 0, slots := 0, locals := 102 } : Room) s m args below meth c H locs 0 0 (MQ below (Qi D ct ad L φ N0 Q) args s 0 0 (AA N0)) (F0 m 30 ls [])) (σ : St) (x4 : Int) (x5 : Int) (H : Heap) (locs : List Loc) (ls : Array Slot) (hw : wp_X11_burnFrom_84 K30 Q σ x4 x5) (h : Hs D ct ad L φ N0 s.heap σ H locs) (hl : lv_has ls 7 [(0, .ref (ad 11 0)), (4, .int (iv x4)), (5, .int (iv x5))]) : W p l e ({ frames := 4, cells := 0, slots := 0, locals := 102 } : Room) s m args below meth c H locs 0 0 (MQ below (Qi D ct ad L φ N0 Q) args s 0 0 (AA N0)) (F0 m 84 ls []) := by
  have hF := X.2.2.2.2.2.2.2.2.1
  unfold wp_X11_burnFrom_84 at hw
  refine j_iinc (kk9 := 2) (lv' := [(5, .int (iv (x5 + 1))), (0, .ref (ad 11 0)), (4, .int (iv x4))]) X dX11_burnFrom_84 hl rfl (by decide) rfl (fun ls hl => ?_)
  refine lv_goto (tgt := 30) X.1 X.2.1 dX11_burnFrom_87 (by decide) ?_
  exact hK30 σ x4 (x5 + 1) _ _ _ hw h (lv_sub hl [1, 2, 0] rfl)
set_option maxRecDepth 100000 in
set_option maxHeartbeats 4000000 in
theorem lb_X11_burnFrom_30 (X : Cx p s m meth c args cX11_burnFrom 7 (some .int) RX11 D ct L φ N0) : ∀ (n : Nat) (σ : St) (x4 : Int) (x5 : Int) (H : Heap) (locs : List Loc) (ls : Array Slot), wp_X11_burnFrom_30 Q n σ x4 x5 → Hs D ct ad L φ N0 s.heap σ H locs → lv_has ls 7 [(0, .ref (ad 11 0)), (4, .int (iv x4)), (5, .int (iv x5))] → W p l e ({ frames := 4, cells := 0, slots := 0, locals := 102 } : Room) s m args below meth c H locs 0 0 (MQ below (Qi D ct ad L φ N0 Q) args s 0 0 (AA N0)) (F0 m 30 ls []) := by
  have hF := X.2.2.2.2.2.2.2.2.1
  intro n
  induction n with
  | zero => intro σ x4 x5 H locs ls hw; exact hw.elim
  | succ n ih =>
    intro σ x4 x5 H locs ls hw h hl
    unfold wp_X11_burnFrom_30 at hw
    refine lv_iload X.1 X.2.1 dX11_burnFrom_30 (lv_at hl 2 rfl) ?_
    refine lv_aload_n X.1 X.2.1 dX11_burnFrom_32 rfl (lv_at hl 0 rfl) ?_
    refine r_get (ci := 11) X inw_11 h (hF.1 11 rfl).1 rfl rfl 4 (by decide) kw_462 rfl dX11_burnFrom_33 ?_
    obtain ⟨g_1, g_2, hwt, hwf⟩ := hw
    refine j_cmp_ge (tgt := 90) X g_1 g_2 dX11_burnFrom_36 (by decide) (fun c_16 => ?_) (fun c_16 => ?_)
    · have hw := hwt c_16
      refine lv_iload X.1 X.2.1 dX11_burnFrom_90 (lv_at hl 1 rfl) ?_
      exact k_ir X rfl h hw dX11_burnFrom_92
    · have hw := hwf c_16
      refine lv_aload_n X.1 X.2.1 dX11_burnFrom_39 rfl (lv_at hl 0 rfl) ?_
      refine r_getR (ci := 11) X inw_11 h (hF.1 11 rfl).1 rfl rfl 3 (by decide) kw_461 rfl ((hF.1 11 rfl).2 3) dX11_burnFrom_40 ?_
      refine lv_iload X.1 X.2.1 dX11_burnFrom_43 (lv_at hl 2 rfl) ?_
      obtain ⟨g_3, g_4, hwt, hwf⟩ := hw
      refine r_aaD (n := 300) (t := 3) X h (hF.1 77 rfl).1 rfl rfl (by decide) g_3 g_4 dX11_burnFrom_45 (fun c_14 => ?_) (fun c_14 => ?_)
      · have hw := hwt c_14
        refine lv_astoreN (lv' := [(6, .null), (0, .ref (ad 11 0)), (4, .int (iv x4)), (5, .int (iv x5))]) X.1 X.2.1 dX11_burnFrom_46 hl (by decide) rfl (fun ls hl => ?_)
        refine lv_aloadN X.1 X.2.1 dX11_burnFrom_48 (lv_at hl 0 rfl) ?_
        refine lv_ifnullN (tgt := 84) X.1 X.2.1 dX11_burnFrom_50 (by decide) ?_
        exact lb_X11_burnFrom_84 X ih σ x4 x5 _ _ _ hw h (lv_sub hl [1, 2, 3] rfl)
      · have hw := hwf c_14 (h.2.2.2.2.2.1 _ c_14)
        refine lv_astore (lv' := [(6, .ref (ad 4 (Int.toNat x5))), (0, .ref (ad 11 0)), (4, .int (iv x4)), (5, .int (iv x5))]) X.1 X.2.1 dX11_burnFrom_46 hl (by decide) rfl (fun ls hl => ?_)
        refine lv_aload X.1 X.2.1 dX11_burnFrom_48 (lv_at hl 0 rfl) ?_
        refine lv_ifnull X.1 X.2.1 dX11_burnFrom_50 ?_
        refine lv_aload X.1 X.2.1 dX11_burnFrom_53 (lv_at hl 0 rfl) ?_
        obtain ⟨g_5, hw⟩ := hw
        refine r_getN (ci := 4) X inw_4 h (h.2.2.1 (Int.toNat x5) g_5).1 rfl rfl 8 (by decide) kw_721 rfl dX11_burnFrom_55 ?_
        obtain ⟨g_6, hwt, hwf⟩ := hw
        refine j_if_ne (tgt := 84) X g_6 dX11_burnFrom_58 (by decide) (fun c_13 => ?_) (fun c_13 => ?_)
        · have hw := hwt c_13
          exact lb_X11_burnFrom_84 X ih σ x4 x5 _ _ _ hw h (lv_sub hl [1, 2, 3] rfl)
        · have hw := hwf c_13
          refine lv_aload_n X.1 X.2.1 dX11_burnFrom_61 rfl (lv_at hl 1 rfl) ?_
          refine r_getR (ci := 11) X inw_11 h (hF.1 11 rfl).1 rfl rfl 1 (by decide) kw_459 rfl ((hF.1 11 rfl).2 1) dX11_burnFrom_62 ?_
          refine r_getRN (ci := 3) X inw_3 h (hF.1 3 rfl).1 rfl rfl 7 (by decide) kw_203 rfl ((hF.1 3 rfl).2 7) dX11_burnFrom_65 ?_
          refine lv_aload X.1 X.2.1 dX11_burnFrom_68 (lv_at hl 0 rfl) ?_
          obtain ⟨g_7, hw⟩ := hw
          refine r_getN (ci := 4) X inw_4 h (h.2.2.1 (Int.toNat x5) g_7).1 rfl rfl 5 (by decide) kw_716 rfl dX11_burnFrom_70 ?_
          obtain ⟨g_8, g_9, hw⟩ := hw
          refine r_iald (n := 64) X h (hF.1 34 rfl).1 rfl (by decide) g_8 g_9 dX11_burnFrom_73 ?_
          obtain ⟨g_10, hwt, hwf⟩ := hw
          refine j_if_le (tgt := 84) X g_10 dX11_burnFrom_74 (by decide) (fun c_12 => ?_) (fun c_12 => ?_)
          · have hw := hwt c_12
            exact lb_X11_burnFrom_84 X ih σ x4 x5 _ _ _ hw h (lv_sub hl [1, 2, 3] rfl)
          · have hw := hwf c_12
            refine lv_aload_n X.1 X.2.1 dX11_burnFrom_77 rfl (lv_at hl 1 rfl) ?_
            refine lv_aload X.1 X.2.1 dX11_burnFrom_78 (lv_at hl 0 rfl) ?_
            refine j_iconst X dX11_burnFrom_80 ?_
            refine k_v h (r_V (C := RX11) (ci := 11) (As := [.ref (ad 4 (Int.toNat x5)), .int (iv 3)]) (rest := []) X h (c_X11_become l D ct ad L φ N0 σ (Int.toNat x5) 3 _ hw) rfl rfl ⟨Nat.le_of_ble_eq_true rfl, Nat.le_of_ble_eq_true rfl⟩ kw_772 kw_774 kw_11 kw_120 kw_775 ⟨rfl, pd_X11_become⟩ (hF.1 11 rfl).1 rfl rfl rfl hl.1 rfl (Nat.le_of_ble_eq_true rfl) ⟨Nat.le_of_ble_eq_true rfl, Nat.le_of_ble_eq_true rfl⟩ dX11_burnFrom_81) (fun σ_11 H locs hw h => ?_)
            exact lb_X11_burnFrom_84 X ih σ_11 x4 x5 _ _ _ hw h (lv_sub hl [1, 2, 3] rfl)
theorem pd_X11_burnFrom : yX11_burnFrom.cls ≠ "java/lang/invoke/MethodHandle" ∧ yX11_burnFrom.cls ≠ "java/lang/invoke/VarHandle" ∧ (parseMethodDescriptor yX11_burnFrom.desc).map (fun d => d.parameters.length) = some 3 := by decide +kernel
set_option maxRecDepth 100000 in
set_option maxHeartbeats 4000000 in
theorem c_X11_burnFrom (l : Launch) (D : va_G) (ct : Nat → ClassId) (ad : Nat → Nat → Nat) (L : List (Nat × Nat)) (φ : Nat → Nat → Nat → Bool) (N0 : Nat) (σ : St) (x1 : Int) (x2 : Int) (x3 : Int) (Q : Int → St → Prop) (hw : wp_X11_burnFrom σ x1 x2 x3 Q) : Met l yX11_burnFrom (.code yX11_burnFrom cX11_burnFrom 7 (some .int) :: gw) ({ frames := 4, cells := 0, slots := 0, locals := 102 } : Room) (Pm D ct ad L φ N0 σ [.ref (ad 11 0), .int (iv x1), .int (iv x2), .int (iv x3)]) (Qi D ct ad L φ N0 Q) 0 0 (AA N0) := by
  refine m_of (by decide) (fun p e s m below meth c X hnm h => ?_)
  have hF := X.2.2.2.2.2.2.2.2.1
  have hl := lv_entry ([.ref (ad 11 0), .int (iv x1), .int (iv x2), .int (iv x3)]) (n := 7) (Nat.le_of_ble_eq_true rfl)
  rw [lg_entry_eq]
  generalize (lg_sl ([.ref (ad 11 0), .int (iv x1), .int (iv x2), .int (iv x3)]) ++ List.replicate (7 - (lg_sl ([.ref (ad 11 0), .int (iv x1), .int (iv x2), .int (iv x3)])).length) Slot.unset).toArray = ls at hl ⊢
  have hl : lv_has ls 7 [(0, .ref (ad 11 0)), (1, .int (iv x1)), (2, .int (iv x2)), (3, .int (iv x3))] := hl
  have h : Hs D ct ad L φ N0 s.heap σ s.heap [] := h
  unfold wp_X11_burnFrom at hw
  refine lv_aload_n X.1 X.2.1 dX11_burnFrom_0 rfl (lv_at hl 0 rfl) ?_
  refine r_getR (ci := 11) X inw_11 h (hF.1 11 rfl).1 rfl rfl 1 (by decide) kw_459 rfl ((hF.1 11 rfl).2 1) dX11_burnFrom_1 ?_
  refine lv_iload_n X.1 X.2.1 dX11_burnFrom_4 rfl (lv_at hl 1 rfl) ?_
  refine lv_iload_n X.1 X.2.1 dX11_burnFrom_5 rfl (lv_at hl 2 rfl) ?_
  refine lv_iload_n X.1 X.2.1 dX11_burnFrom_6 rfl (lv_at hl 3 rfl) ?_
  refine lv_aload_n X.1 X.2.1 dX11_burnFrom_7 rfl (lv_at hl 0 rfl) ?_
  refine r_getR (ci := 11) X inw_11 h (hF.1 11 rfl).1 rfl rfl 0 (by decide) kw_458 rfl ((hF.1 11 rfl).2 0) dX11_burnFrom_8 ?_
  refine j_iconst X dX11_burnFrom_11 ?_
  refine k_i h (r_V (C := RX7) (ci := 7) (As := [.int (iv 2)]) (rest := [.int (iv x3), .int (iv x2), .int (iv x1), .ref (ad 3 0)]) X h (c_X7_now l D ct ad L φ N0 σ 2 _ hw) rfl rfl ⟨Nat.le_of_ble_eq_true rfl, Nat.le_of_ble_eq_true rfl⟩ kw_899 kw_662 kw_663 kw_121 kw_664 ⟨rfl, pd_X7_now⟩ (hF.1 7 rfl).1 rfl rfl rfl hl.1 rfl (Nat.le_of_ble_eq_true rfl) ⟨Nat.le_of_ble_eq_true rfl, Nat.le_of_ble_eq_true rfl⟩ dX11_burnFrom_12) (fun r_18 σ_17 H locs hw h => ?_)
  refine k_i h (r_V (C := RX3) (ci := 3) (As := [.int (iv x1), .int (iv x2), .int (iv x3), .int (iv r_18)]) (rest := []) X h (c_X3_spreadFire l D ct ad L φ N0 σ_17 x1 x2 x3 r_18 _ hw) rfl rfl ⟨Nat.le_of_ble_eq_true rfl, Nat.le_of_ble_eq_true rfl⟩ kw_1305 kw_1306 kw_1307 kw_122 kw_1308 ⟨rfl, pd_X3_spreadFire⟩ (hF.1 3 rfl).1 rfl rfl rfl hl.1 rfl (Nat.le_of_ble_eq_true rfl) ⟨Nat.le_of_ble_eq_true rfl, Nat.le_of_ble_eq_true rfl⟩ dX11_burnFrom_15) (fun r_20 σ_19 H locs hw h => ?_)
  refine lv_istore (lv' := [(4, .int (iv r_20)), (0, .ref (ad 11 0)), (1, .int (iv x1)), (2, .int (iv x2)), (3, .int (iv x3))]) X.1 X.2.1 dX11_burnFrom_18 hl (by decide) rfl (fun ls hl => ?_)
  refine lv_aload_n X.1 X.2.1 dX11_burnFrom_20 rfl (lv_at hl 1 rfl) ?_
  refine r_getR (ci := 11) X inw_11 h (hF.1 11 rfl).1 rfl rfl 1 (by decide) kw_459 rfl ((hF.1 11 rfl).2 1) dX11_burnFrom_21 ?_
  refine k_v h (r_V (C := RX3) (ci := 3) (As := []) (rest := []) X h (c_X3_clearBurnt l D ct ad L φ N0 σ_19 _ hw) rfl rfl ⟨Nat.le_of_ble_eq_true rfl, Nat.le_of_ble_eq_true rfl⟩ kw_1324 kw_1325 kw_1326 kw_122 kw_1327 ⟨rfl, pd_X3_clearBurnt⟩ (hF.1 3 rfl).1 rfl rfl rfl hl.1 rfl (Nat.le_of_ble_eq_true rfl) ⟨Nat.le_of_ble_eq_true rfl, Nat.le_of_ble_eq_true rfl⟩ dX11_burnFrom_24) (fun σ_21 H locs hw h => ?_)
  refine j_iconst X dX11_burnFrom_27 ?_
  refine lv_istore (lv' := [(5, .int (iv 0)), (4, .int (iv r_20)), (0, .ref (ad 11 0)), (1, .int (iv x1)), (2, .int (iv x2)), (3, .int (iv x3))]) X.1 X.2.1 dX11_burnFrom_28 hl (by decide) rfl (fun ls hl => ?_)
  exact hw.elim (fun n30 hw => lb_X11_burnFrom_30 X n30 σ_21 r_20 0 _ _ _ hw h (lv_sub hl [2, 1, 0] rfl))
end
section
variable {p : Program} {l : Launch} {e : Env} {s : State} {m : MethodId} {args : Array Value} {below : List Frame} {meth : Method} {c : Code} {D : va_G} {ct : Nat → ClassId} {ad : Nat → Nat → Nat} {L : List (Nat × Nat)} {φ : Nat → Nat → Nat → Bool} {N0 : Nat}
variable {Q : Int → St → Prop}
theorem pd_X11_fire : yX11_fire.cls ≠ "java/lang/invoke/MethodHandle" ∧ yX11_fire.cls ≠ "java/lang/invoke/VarHandle" ∧ (parseMethodDescriptor yX11_fire.desc).map (fun d => d.parameters.length) = some 3 := by decide +kernel
set_option maxRecDepth 100000 in
set_option maxHeartbeats 4000000 in
theorem c_X11_fire (l : Launch) (D : va_G) (ct : Nat → ClassId) (ad : Nat → Nat → Nat) (L : List (Nat × Nat)) (φ : Nat → Nat → Nat → Bool) (N0 : Nat) (σ : St) (x1 : Int) (x2 : Int) (x3 : Int) (Q : Int → St → Prop) (hw : wp_X11_fire σ x1 x2 x3 Q) : Met l yX11_fire (.code yX11_fire cX11_fire 4 (some .int) :: gw) ({ frames := 5, cells := 0, slots := 0, locals := 128 } : Room) (Pm D ct ad L φ N0 σ [.ref (ad 11 0), .int (iv x1), .int (iv x2), .int (iv x3)]) (Qi D ct ad L φ N0 Q) 0 0 (AA N0) := by
  refine m_of (by decide) (fun p e s m below meth c X hnm h => ?_)
  have hF := X.2.2.2.2.2.2.2.2.1
  have hl := lv_entry ([.ref (ad 11 0), .int (iv x1), .int (iv x2), .int (iv x3)]) (n := 4) (Nat.le_of_ble_eq_true rfl)
  rw [lg_entry_eq]
  generalize (lg_sl ([.ref (ad 11 0), .int (iv x1), .int (iv x2), .int (iv x3)]) ++ List.replicate (4 - (lg_sl ([.ref (ad 11 0), .int (iv x1), .int (iv x2), .int (iv x3)])).length) Slot.unset).toArray = ls at hl ⊢
  have hl : lv_has ls 4 [(0, .ref (ad 11 0)), (1, .int (iv x1)), (2, .int (iv x2)), (3, .int (iv x3))] := hl
  have h : Hs D ct ad L φ N0 s.heap σ s.heap [] := h
  unfold wp_X11_fire at hw
  refine lv_iload_n X.1 X.2.1 dX11_fire_0 rfl (lv_at hl 1 rfl) ?_
  refine k_i h (r_S (As := [.int (iv x1)]) (rest := []) X h (c_X11_isCell l D ct ad L φ N0 σ x1 _ hw) rfl rfl ⟨Nat.le_of_ble_eq_true rfl, Nat.le_of_ble_eq_true rfl⟩ kw_523 kw_524 kw_120 kw_525 pd_X11_isCell rfl hl.1 rfl (Nat.le_of_ble_eq_true rfl) ⟨Nat.le_of_ble_eq_true rfl, Nat.le_of_ble_eq_true rfl⟩ dX11_fire_1) (fun r_2 σ_1 H locs hw h => ?_)
  obtain ⟨g_3, hwt, hwf⟩ := hw
  refine j_if_eq (tgt := 26) X g_3 dX11_fire_4 (by decide) (fun c_14 => ?_) (fun c_14 => ?_)
  · have hw := hwt c_14
    refine j_iconst X dX11_fire_26 ?_
    exact k_ir X rfl h hw dX11_fire_27
  · have hw := hwf c_14
    refine lv_iload_n X.1 X.2.1 dX11_fire_7 rfl (lv_at hl 2 rfl) ?_
    refine j_iconst X dX11_fire_8 ?_
    refine j_iconst X dX11_fire_9 ?_
    refine k_i h (r_S (As := [.int (iv x2), .int (iv 0), .int (iv 3)]) (rest := []) X h (c_X11_within l D ct ad L φ N0 σ_1 x2 0 3 _ hw) rfl rfl ⟨Nat.le_of_ble_eq_true rfl, Nat.le_of_ble_eq_true rfl⟩ kw_526 kw_527 kw_120 kw_528 pd_X11_within rfl hl.1 rfl (Nat.le_of_ble_eq_true rfl) ⟨Nat.le_of_ble_eq_true rfl, Nat.le_of_ble_eq_true rfl⟩ dX11_fire_10) (fun r_5 σ_4 H locs hw h => ?_)
    obtain ⟨g_6, hwt, hwf⟩ := hw
    refine j_if_eq (tgt := 26) X g_6 dX11_fire_13 (by decide) (fun c_13 => ?_) (fun c_13 => ?_)
    · have hw := hwt c_13
      refine j_iconst X dX11_fire_26 ?_
      exact k_ir X rfl h hw dX11_fire_27
    · have hw := hwf c_13
      refine lv_iload_n X.1 X.2.1 dX11_fire_16 rfl (lv_at hl 3 rfl) ?_
      refine j_iconst X dX11_fire_17 ?_
      refine j_bipush X dX11_fire_18 (by decide) ?_
      refine k_i h (r_S (As := [.int (iv x3), .int (iv 1), .int (iv 20)]) (rest := []) X h (c_X11_within l D ct ad L φ N0 σ_4 x3 1 20 _ hw) rfl rfl ⟨Nat.le_of_ble_eq_true rfl, Nat.le_of_ble_eq_true rfl⟩ kw_526 kw_527 kw_120 kw_528 pd_X11_within rfl hl.1 rfl (Nat.le_of_ble_eq_true rfl) ⟨Nat.le_of_ble_eq_true rfl, Nat.le_of_ble_eq_true rfl⟩ dX11_fire_20) (fun r_8 σ_7 H locs hw h => ?_)
      obtain ⟨g_9, hwt, hwf⟩ := hw
      refine j_if_ne (tgt := 28) X g_9 dX11_fire_23 (by decide) (fun c_12 => ?_) (fun c_12 => ?_)
      · have hw := hwt c_12
        refine lv_aload_n X.1 X.2.1 dX11_fire_28 rfl (lv_at hl 0 rfl) ?_
        refine lv_iload_n X.1 X.2.1 dX11_fire_29 rfl (lv_at hl 1 rfl) ?_
        refine lv_iload_n X.1 X.2.1 dX11_fire_30 rfl (lv_at hl 2 rfl) ?_
        refine lv_iload_n X.1 X.2.1 dX11_fire_31 rfl (lv_at hl 3 rfl) ?_
        refine k_i h (r_V (C := RX11) (ci := 11) (As := [.int (iv x1), .int (iv x2), .int (iv x3)]) (rest := []) X h (c_X11_burnFrom l D ct ad L φ N0 σ_7 x1 x2 x3 _ hw) rfl rfl ⟨Nat.le_of_ble_eq_true rfl, Nat.le_of_ble_eq_true rfl⟩ kw_1301 kw_1303 kw_44 kw_120 kw_1304 ⟨rfl, pd_X11_burnFrom⟩ (hF.1 11 rfl).1 rfl rfl rfl hl.1 rfl (Nat.le_of_ble_eq_true rfl) ⟨Nat.le_of_ble_eq_true rfl, Nat.le_of_ble_eq_true rfl⟩ dX11_fire_32) (fun r_11 σ_10 H locs hw h => ?_)
        exact k_ir X rfl h hw dX11_fire_35
      · have hw := hwf c_12
        refine j_iconst X dX11_fire_26 ?_
        exact k_ir X rfl h hw dX11_fire_27
end
section
variable {p : Program} {l : Launch} {e : Env} {s : State} {m : MethodId} {args : Array Value} {below : List Frame} {meth : Method} {c : Code} {D : va_G} {ct : Nat → ClassId} {ad : Nat → Nat → Nat} {L : List (Nat × Nat)} {φ : Nat → Nat → Nat → Bool} {N0 : Nat}
variable {Q : Int → St → Prop}
theorem pd_X11_burn : yX11_burn.cls ≠ "java/lang/invoke/MethodHandle" ∧ yX11_burn.cls ≠ "java/lang/invoke/VarHandle" ∧ (parseMethodDescriptor yX11_burn.desc).map (fun d => d.parameters.length) = some 1 := by decide +kernel
set_option maxRecDepth 100000 in
set_option maxHeartbeats 4000000 in
theorem c_X11_burn (l : Launch) (D : va_G) (ct : Nat → ClassId) (ad : Nat → Nat → Nat) (L : List (Nat × Nat)) (φ : Nat → Nat → Nat → Bool) (N0 : Nat) (σ : St) (x1 : Int) (Q : Int → St → Prop) (hw : wp_X11_burn σ x1 Q) : Met l yX11_burn (.code yX11_burn cX11_burn 2 (some .int) :: gw) ({ frames := 5, cells := 0, slots := 0, locals := 128 } : Room) (Pm D ct ad L φ N0 σ [.ref (ad 11 0), .int (iv x1)]) (Qi D ct ad L φ N0 Q) 0 0 (AA N0) := by
  refine m_of (by decide) (fun p e s m below meth c X hnm h => ?_)
  have hF := X.2.2.2.2.2.2.2.2.1
  have hl := lv_entry ([.ref (ad 11 0), .int (iv x1)]) (n := 2) (Nat.le_of_ble_eq_true rfl)
  rw [lg_entry_eq]
  generalize (lg_sl ([.ref (ad 11 0), .int (iv x1)]) ++ List.replicate (2 - (lg_sl ([.ref (ad 11 0), .int (iv x1)])).length) Slot.unset).toArray = ls at hl ⊢
  have hl : lv_has ls 2 [(0, .ref (ad 11 0)), (1, .int (iv x1))] := hl
  have h : Hs D ct ad L φ N0 s.heap σ s.heap [] := h
  unfold wp_X11_burn at hw
  refine lv_iload_n X.1 X.2.1 dX11_burn_0 rfl (lv_at hl 1 rfl) ?_
  refine k_i h (r_S (As := [.int (iv x1)]) (rest := []) X h (c_X11_isCell l D ct ad L φ N0 σ x1 _ hw) rfl rfl ⟨Nat.le_of_ble_eq_true rfl, Nat.le_of_ble_eq_true rfl⟩ kw_523 kw_524 kw_120 kw_525 pd_X11_isCell rfl hl.1 rfl (Nat.le_of_ble_eq_true rfl) ⟨Nat.le_of_ble_eq_true rfl, Nat.le_of_ble_eq_true rfl⟩ dX11_burn_1) (fun r_2 σ_1 H locs hw h => ?_)
  obtain ⟨g_3, hwt, hwf⟩ := hw
  refine j_if_ne (tgt := 9) X g_3 dX11_burn_4 (by decide) (fun c_19 => ?_) (fun c_19 => ?_)
  · have hw := hwt c_19
    refine lv_aload_n X.1 X.2.1 dX11_burn_9 rfl (lv_at hl 0 rfl) ?_
    refine r_getR (ci := 11) X inw_11 h (hF.1 11 rfl).1 rfl rfl 9 (by decide) kw_467 rfl ((hF.1 11 rfl).2 9) dX11_burn_10 ?_
    refine lv_aload_n X.1 X.2.1 dX11_burn_13 rfl (lv_at hl 0 rfl) ?_
    refine r_getR (ci := 11) X inw_11 h (hF.1 11 rfl).1 rfl rfl 0 (by decide) kw_458 rfl ((hF.1 11 rfl).2 0) dX11_burn_14 ?_
    refine k_v h (r_V (C := RX8) (ci := 8) (As := [.ref (ad 7 0)]) (rest := []) X h (c_X8_askOfDay l D ct ad L φ N0 σ_1 _ hw) rfl rfl ⟨Nat.le_of_ble_eq_true rfl, Nat.le_of_ble_eq_true rfl⟩ kw_653 kw_654 kw_655 kw_125 kw_656 ⟨rfl, pd_X8_askOfDay⟩ (hF.1 8 rfl).1 rfl rfl rfl hl.1 rfl (Nat.le_of_ble_eq_true rfl) ⟨Nat.le_of_ble_eq_true rfl, Nat.le_of_ble_eq_true rfl⟩ dX11_burn_17) (fun σ_4 H locs hw h => ?_)
    refine lv_aload_n X.1 X.2.1 dX11_burn_20 rfl (lv_at hl 0 rfl) ?_
    refine r_getR (ci := 11) X inw_11 h (hF.1 11 rfl).1 rfl rfl 9 (by decide) kw_467 rfl ((hF.1 11 rfl).2 9) dX11_burn_21 ?_
    refine lv_aload_n X.1 X.2.1 dX11_burn_24 rfl (lv_at hl 0 rfl) ?_
    refine r_getR (ci := 11) X inw_11 h (hF.1 11 rfl).1 rfl rfl 1 (by decide) kw_459 rfl ((hF.1 11 rfl).2 1) dX11_burn_25 ?_
    refine lv_iload_n X.1 X.2.1 dX11_burn_28 rfl (lv_at hl 1 rfl) ?_
    refine k_v h (r_V (C := RX8) (ci := 8) (As := [.ref (ad 3 0), .int (iv x1)]) (rest := []) X h (c_X8_askOfCell l D ct ad L φ N0 σ_4 x1 _ hw) rfl rfl ⟨Nat.le_of_ble_eq_true rfl, Nat.le_of_ble_eq_true rfl⟩ kw_665 kw_666 kw_667 kw_125 kw_668 ⟨rfl, pd_X8_askOfCell⟩ (hF.1 8 rfl).1 rfl rfl rfl hl.1 rfl (Nat.le_of_ble_eq_true rfl) ⟨Nat.le_of_ble_eq_true rfl, Nat.le_of_ble_eq_true rfl⟩ dX11_burn_29) (fun σ_5 H locs hw h => ?_)
    refine lv_aload_n X.1 X.2.1 dX11_burn_32 rfl (lv_at hl 0 rfl) ?_
    refine r_getR (ci := 11) X inw_11 h (hF.1 11 rfl).1 rfl rfl 9 (by decide) kw_467 rfl ((hF.1 11 rfl).2 9) dX11_burn_33 ?_
    refine lv_aload_n X.1 X.2.1 dX11_burn_36 rfl (lv_at hl 0 rfl) ?_
    refine r_getR (ci := 11) X inw_11 h (hF.1 11 rfl).1 rfl rfl 0 (by decide) kw_458 rfl ((hF.1 11 rfl).2 0) dX11_burn_37 ?_
    refine r_getN (ci := 7) X inw_7 h (hF.1 7 rfl).1 rfl rfl 3 (by decide) kw_164 rfl dX11_burn_40 ?_
    refine j_iconst X dX11_burn_43 ?_
    refine k_i h (r_V (C := RX8) (ci := 8) (As := [.int (iv (σ_5 7 0 3)), .int (iv 2)]) (rest := []) X h (c_X8_barring l D ct ad L φ N0 σ_5 (σ_5 7 0 3) 2 _ hw) rfl rfl ⟨Nat.le_of_ble_eq_true rfl, Nat.le_of_ble_eq_true rfl⟩ kw_670 kw_671 kw_672 kw_125 kw_673 ⟨rfl, pd_X8_barring⟩ (hF.1 8 rfl).1 rfl rfl rfl hl.1 rfl (Nat.le_of_ble_eq_true rfl) ⟨Nat.le_of_ble_eq_true rfl, Nat.le_of_ble_eq_true rfl⟩ dX11_burn_44) (fun r_7 σ_6 H locs hw h => ?_)
    refine j_iconst X dX11_burn_47 ?_
    obtain ⟨g_8, hwt, hwf⟩ := hw
    refine j_cmp_eq (tgt := 54) X g_8 ⟨by decide, by decide⟩ dX11_burn_48 (by decide) (fun c_18 => ?_) (fun c_18 => ?_)
    · have hw := hwt c_18
      refine lv_aload_n X.1 X.2.1 dX11_burn_54 rfl (lv_at hl 0 rfl) ?_
      refine r_getR (ci := 11) X inw_11 h (hF.1 11 rfl).1 rfl rfl 1 (by decide) kw_459 rfl ((hF.1 11 rfl).2 1) dX11_burn_55 ?_
      refine r_getRN (ci := 3) X inw_3 h (hF.1 3 rfl).1 rfl rfl 1 (by decide) kw_190 rfl ((hF.1 3 rfl).2 1) dX11_burn_58 ?_
      refine lv_iload_n X.1 X.2.1 dX11_burn_61 rfl (lv_at hl 1 rfl) ?_
      refine j_iconst X dX11_burn_62 ?_
      obtain ⟨g_9, g_10, hw⟩ := hw
      refine r_iast (n := 64) X h (hF.1 29 rfl).1 (fun _ => rfl) (by decide) g_9 g_10 rfl dX11_burn_63 (fun H locs h => ?_)
      obtain ⟨σ_11, eσ_11⟩ : ∃ z : St, z = st σ_6 29 0 (Int.toNat x1) 0 := ⟨_, rfl⟩
      rw [← eσ_11] at h
      have hw := hw σ_11 eσ_11
      refine lv_aload_n X.1 X.2.1 dX11_burn_64 rfl (lv_at hl 0 rfl) ?_
      refine r_getR (ci := 11) X inw_11 h (hF.1 11 rfl).1 rfl rfl 0 (by decide) kw_458 rfl ((hF.1 11 rfl).2 0) dX11_burn_65 ?_
      refine j_iconst X dX11_burn_68 ?_
      refine k_i h (r_V (C := RX7) (ci := 7) (As := [.int (iv 2)]) (rest := []) X h (c_X7_now l D ct ad L φ N0 σ_11 2 _ hw) rfl rfl ⟨Nat.le_of_ble_eq_true rfl, Nat.le_of_ble_eq_true rfl⟩ kw_899 kw_662 kw_663 kw_121 kw_664 ⟨rfl, pd_X7_now⟩ (hF.1 7 rfl).1 rfl rfl rfl hl.1 rfl (Nat.le_of_ble_eq_true rfl) ⟨Nat.le_of_ble_eq_true rfl, Nat.le_of_ble_eq_true rfl⟩ dX11_burn_69) (fun r_13 σ_12 H locs hw h => ?_)
      refine j_bipush X dX11_burn_72 (by decide) ?_
      obtain ⟨g_14, hwt, hwf⟩ := hw
      refine j_cmp_lt (tgt := 87) X g_14 ⟨by decide, by decide⟩ dX11_burn_74 (by decide) (fun c_17 => ?_) (fun c_17 => ?_)
      · have hw := hwt c_17
        refine j_iconst X dX11_burn_87 ?_
        exact k_ir X rfl h hw dX11_burn_88
      · have hw := hwf c_17
        refine lv_aload_n X.1 X.2.1 dX11_burn_77 rfl (lv_at hl 0 rfl) ?_
        refine lv_iload_n X.1 X.2.1 dX11_burn_78 rfl (lv_at hl 1 rfl) ?_
        refine j_iconst X dX11_burn_79 ?_
        refine j_iconst X dX11_burn_80 ?_
        refine k_i h (r_V (C := RX11) (ci := 11) (As := [.int (iv x1), .int (iv 0), .int (iv 3)]) (rest := []) X h (c_X11_burnFrom l D ct ad L φ N0 σ_12 x1 0 3 _ hw) rfl rfl ⟨Nat.le_of_ble_eq_true rfl, Nat.le_of_ble_eq_true rfl⟩ kw_1301 kw_1303 kw_44 kw_120 kw_1304 ⟨rfl, pd_X11_burnFrom⟩ (hF.1 11 rfl).1 rfl rfl rfl hl.1 rfl (Nat.le_of_ble_eq_true rfl) ⟨Nat.le_of_ble_eq_true rfl, Nat.le_of_ble_eq_true rfl⟩ dX11_burn_81) (fun r_16 σ_15 H locs hw h => ?_)
        refine lv_goto (tgt := 88) X.1 X.2.1 dX11_burn_84 (by decide) ?_
        exact k_ir X rfl h hw dX11_burn_88
    · have hw := hwf c_18
      refine j_bipush X dX11_burn_51 (by decide) ?_
      exact k_ir X rfl h hw dX11_burn_53
  · have hw := hwf c_19
    refine j_iconst X dX11_burn_7 ?_
    exact k_ir X rfl h hw dX11_burn_8
end
section
variable {p : Program} {l : Launch} {e : Env} {s : State} {m : MethodId} {args : Array Value} {below : List Frame} {meth : Method} {c : Code} {D : va_G} {ct : Nat → ClassId} {ad : Nat → Nat → Nat} {L : List (Nat × Nat)} {φ : Nat → Nat → Nat → Bool} {N0 : Nat}
variable {Q : Int → St → Prop}
theorem pd_X11_spur : yX11_spur.cls ≠ "java/lang/invoke/MethodHandle" ∧ yX11_spur.cls ≠ "java/lang/invoke/VarHandle" ∧ (parseMethodDescriptor yX11_spur.desc).map (fun d => d.parameters.length) = some 3 := by decide +kernel
set_option maxRecDepth 100000 in
set_option maxHeartbeats 4000000 in
theorem c_X11_spur (l : Launch) (D : va_G) (ct : Nat → ClassId) (ad : Nat → Nat → Nat) (L : List (Nat × Nat)) (φ : Nat → Nat → Nat → Bool) (N0 : Nat) (σ : St) (x1 : Int) (x2 : Int) (x3 : Int) (Q : Int → St → Prop) (hw : wp_X11_spur σ x1 x2 x3 Q) : Met l yX11_spur (.code yX11_spur cX11_spur 4 (some .int) :: gw) ({ frames := 1, cells := 0, slots := 0, locals := 23 } : Room) (Pm D ct ad L φ N0 σ [.ref (ad 11 0), .int (iv x1), .int (iv x2), .int (iv x3)]) (Qi D ct ad L φ N0 Q) 0 0 (AA N0) := by
  refine m_of (by decide) (fun p e s m below meth c X hnm h => ?_)
  have hF := X.2.2.2.2.2.2.2.2.1
  have hl := lv_entry ([.ref (ad 11 0), .int (iv x1), .int (iv x2), .int (iv x3)]) (n := 4) (Nat.le_of_ble_eq_true rfl)
  rw [lg_entry_eq]
  generalize (lg_sl ([.ref (ad 11 0), .int (iv x1), .int (iv x2), .int (iv x3)]) ++ List.replicate (4 - (lg_sl ([.ref (ad 11 0), .int (iv x1), .int (iv x2), .int (iv x3)])).length) Slot.unset).toArray = ls at hl ⊢
  have hl : lv_has ls 4 [(0, .ref (ad 11 0)), (1, .int (iv x1)), (2, .int (iv x2)), (3, .int (iv x3))] := hl
  have h : Hs D ct ad L φ N0 s.heap σ s.heap [] := h
  unfold wp_X11_spur at hw
  refine lv_iload_n X.1 X.2.1 dX11_spur_0 rfl (lv_at hl 1 rfl) ?_
  obtain ⟨g_1, hwt, hwf⟩ := hw
  refine j_if_le (tgt := 25) X g_1 dX11_spur_1 (by decide) (fun c_14 => ?_) (fun c_14 => ?_)
  · have hw := hwt c_14
    refine j_iconst X dX11_spur_25 ?_
    exact k_ir X rfl h hw dX11_spur_26
  · have hw := hwf c_14
    refine lv_iload_n X.1 X.2.1 dX11_spur_4 rfl (lv_at hl 2 rfl) ?_
    refine j_iconst X dX11_spur_5 ?_
    refine j_bipush X dX11_spur_6 (by decide) ?_
    refine k_i h (r_S (As := [.int (iv x2), .int (iv 1), .int (iv 50)]) (rest := []) X h (c_X11_within l D ct ad L φ N0 σ x2 1 50 _ hw) rfl rfl ⟨Nat.le_of_ble_eq_true rfl, Nat.le_of_ble_eq_true rfl⟩ kw_526 kw_527 kw_120 kw_528 pd_X11_within rfl hl.1 rfl (Nat.le_of_ble_eq_true rfl) ⟨Nat.le_of_ble_eq_true rfl, Nat.le_of_ble_eq_true rfl⟩ dX11_spur_8) (fun r_3 σ_2 H locs hw h => ?_)
    obtain ⟨g_4, hwt, hwf⟩ := hw
    refine j_if_eq (tgt := 25) X g_4 dX11_spur_11 (by decide) (fun c_13 => ?_) (fun c_13 => ?_)
    · have hw := hwt c_13
      refine j_iconst X dX11_spur_25 ?_
      exact k_ir X rfl h hw dX11_spur_26
    · have hw := hwf c_13
      refine lv_iload_n X.1 X.2.1 dX11_spur_14 rfl (lv_at hl 3 rfl) ?_
      refine j_iconst X dX11_spur_15 ?_
      refine j_sipush X dX11_spur_16 (by decide) ?_
      refine k_i h (r_S (As := [.int (iv x3), .int (iv 0), .int (iv 999)]) (rest := []) X h (c_X11_within l D ct ad L φ N0 σ_2 x3 0 999 _ hw) rfl rfl ⟨Nat.le_of_ble_eq_true rfl, Nat.le_of_ble_eq_true rfl⟩ kw_526 kw_527 kw_120 kw_528 pd_X11_within rfl hl.1 rfl (Nat.le_of_ble_eq_true rfl) ⟨Nat.le_of_ble_eq_true rfl, Nat.le_of_ble_eq_true rfl⟩ dX11_spur_19) (fun r_6 σ_5 H locs hw h => ?_)
      obtain ⟨g_7, hwt, hwf⟩ := hw
      refine j_if_ne (tgt := 27) X g_7 dX11_spur_22 (by decide) (fun c_12 => ?_) (fun c_12 => ?_)
      · have hw := hwt c_12
        refine lv_aload_n X.1 X.2.1 dX11_spur_27 rfl (lv_at hl 0 rfl) ?_
        refine r_getR (ci := 11) X inw_11 h (hF.1 11 rfl).1 rfl rfl 18 (by decide) kw_476 rfl ((hF.1 11 rfl).2 18) dX11_spur_28 ?_
        refine r_getN (ci := 5) X inw_5 h (hF.1 5 rfl).1 rfl rfl 3 (by decide) kw_386 rfl dX11_spur_31 ?_
        refine j_bipush X dX11_spur_34 (by decide) ?_
        obtain ⟨g_8, hwt, hwf⟩ := hw
        refine j_cmp_lt (tgt := 43) X g_8 ⟨by decide, by decide⟩ dX11_spur_36 (by decide) (fun c_11 => ?_) (fun c_11 => ?_)
        · have hw := hwt c_11
          refine lv_aload_n X.1 X.2.1 dX11_spur_43 rfl (lv_at hl 0 rfl) ?_
          refine r_getR (ci := 11) X inw_11 h (hF.1 11 rfl).1 rfl rfl 18 (by decide) kw_476 rfl ((hF.1 11 rfl).2 18) dX11_spur_44 ?_
          refine lv_iload_n X.1 X.2.1 dX11_spur_47 rfl (lv_at hl 1 rfl) ?_
          refine lv_iload_n X.1 X.2.1 dX11_spur_48 rfl (lv_at hl 2 rfl) ?_
          refine lv_iload_n X.1 X.2.1 dX11_spur_49 rfl (lv_at hl 3 rfl) ?_
          refine k_i h (r_V (C := RX5) (ci := 5) (As := [.int (iv x1), .int (iv x2), .int (iv x3)]) (rest := []) X h (c_X5_addSpur l D ct ad L φ N0 σ_5 x1 x2 x3 _ hw) rfl rfl ⟨Nat.le_of_ble_eq_true rfl, Nat.le_of_ble_eq_true rfl⟩ kw_1340 kw_1341 kw_1342 kw_127 kw_1343 ⟨rfl, pd_X5_addSpur⟩ (hF.1 5 rfl).1 rfl rfl rfl hl.1 rfl (Nat.le_of_ble_eq_true rfl) ⟨Nat.le_of_ble_eq_true rfl, Nat.le_of_ble_eq_true rfl⟩ dX11_spur_50) (fun r_10 σ_9 H locs hw h => ?_)
          exact k_ir X rfl h hw dX11_spur_53
        · have hw := hwf c_11
          refine j_iconst X dX11_spur_39 ?_
          refine lv_goto (tgt := 53) X.1 X.2.1 dX11_spur_40 (by decide) ?_
          exact k_ir X rfl h hw dX11_spur_53
      · have hw := hwf c_12
        refine j_iconst X dX11_spur_25 ?_
        exact k_ir X rfl h hw dX11_spur_26
end
section
variable {p : Program} {l : Launch} {e : Env} {s : State} {m : MethodId} {args : Array Value} {below : List Frame} {meth : Method} {c : Code} {D : va_G} {ct : Nat → ClassId} {ad : Nat → Nat → Nat} {L : List (Nat × Nat)} {φ : Nat → Nat → Nat → Bool} {N0 : Nat}
variable {Q : Int → St → Prop}
theorem pd_X11_asked : yX11_asked.cls ≠ "java/lang/invoke/MethodHandle" ∧ yX11_asked.cls ≠ "java/lang/invoke/VarHandle" ∧ (parseMethodDescriptor yX11_asked.desc).map (fun d => d.parameters.length) = some 2 := by decide +kernel
set_option maxRecDepth 100000 in
set_option maxHeartbeats 4000000 in
theorem c_X11_asked (l : Launch) (D : va_G) (ct : Nat → ClassId) (ad : Nat → Nat → Nat) (L : List (Nat × Nat)) (φ : Nat → Nat → Nat → Bool) (N0 : Nat) (σ : St) (x1 : Int) (x2 : Int) (Q : Int → St → Prop) (hw : wp_X11_asked σ x1 x2 Q) : Met l yX11_asked (.code yX11_asked cX11_asked 3 (some .boolean) :: gw) ({ frames := 1, cells := 0, slots := 0, locals := 22 } : Room) (Pm D ct ad L φ N0 σ [.ref (ad 11 0), .int (iv x1), .int (iv x2)]) (Qi D ct ad L φ N0 Q) 0 0 (AA N0) := by
  refine m_of (by decide) (fun p e s m below meth c X hnm h => ?_)
  have hF := X.2.2.2.2.2.2.2.2.1
  have hl := lv_entry ([.ref (ad 11 0), .int (iv x1), .int (iv x2)]) (n := 3) (Nat.le_of_ble_eq_true rfl)
  rw [lg_entry_eq]
  generalize (lg_sl ([.ref (ad 11 0), .int (iv x1), .int (iv x2)]) ++ List.replicate (3 - (lg_sl ([.ref (ad 11 0), .int (iv x1), .int (iv x2)])).length) Slot.unset).toArray = ls at hl ⊢
  have hl : lv_has ls 3 [(0, .ref (ad 11 0)), (1, .int (iv x1)), (2, .int (iv x2))] := hl
  have h : Hs D ct ad L φ N0 s.heap σ s.heap [] := h
  unfold wp_X11_asked at hw
  refine lv_iload_n X.1 X.2.1 dX11_asked_0 rfl (lv_at hl 1 rfl) ?_
  refine j_iconst X dX11_asked_1 ?_
  refine j_iconst X dX11_asked_2 ?_
  refine k_i h (r_S (As := [.int (iv x1), .int (iv 0), .int (iv 3)]) (rest := []) X h (c_X11_within l D ct ad L φ N0 σ x1 0 3 _ hw) rfl rfl ⟨Nat.le_of_ble_eq_true rfl, Nat.le_of_ble_eq_true rfl⟩ kw_526 kw_527 kw_120 kw_528 pd_X11_within rfl hl.1 rfl (Nat.le_of_ble_eq_true rfl) ⟨Nat.le_of_ble_eq_true rfl, Nat.le_of_ble_eq_true rfl⟩ dX11_asked_3) (fun r_2 σ_1 H locs hw h => ?_)
  obtain ⟨g_3, hwt, hwf⟩ := hw
  refine j_if_eq (tgt := 13) X g_3 dX11_asked_6 (by decide) (fun c_9 => ?_) (fun c_9 => ?_)
  · have hw := hwt c_9
    refine j_iconst X dX11_asked_13 ?_
    exact k_ir X rfl h hw dX11_asked_14
  · have hw := hwf c_9
    refine lv_iload_n X.1 X.2.1 dX11_asked_9 rfl (lv_at hl 2 rfl) ?_
    obtain ⟨g_4, hwt, hwf⟩ := hw
    refine j_if_ge (tgt := 15) X g_4 dX11_asked_10 (by decide) (fun c_8 => ?_) (fun c_8 => ?_)
    · have hw := hwt c_8
      refine lv_aload_n X.1 X.2.1 dX11_asked_15 rfl (lv_at hl 0 rfl) ?_
      refine r_getR (ci := 11) X inw_11 h (hF.1 11 rfl).1 rfl rfl 18 (by decide) kw_476 rfl ((hF.1 11 rfl).2 18) dX11_asked_16 ?_
      refine r_getRN (ci := 5) X inw_5 h (hF.1 5 rfl).1 rfl rfl 4 (by decide) kw_388 rfl ((hF.1 5 rfl).2 4) dX11_asked_19 ?_
      refine lv_iload_n X.1 X.2.1 dX11_asked_22 rfl (lv_at hl 1 rfl) ?_
      refine lv_iload_n X.1 X.2.1 dX11_asked_23 rfl (lv_at hl 2 rfl) ?_
      obtain ⟨g_5, g_6, hw⟩ := hw
      refine r_iast (n := 4) X h (hF.1 42 rfl).1 (fun _ => rfl) (by decide) g_5 g_6 rfl dX11_asked_24 (fun H locs h => ?_)
      obtain ⟨σ_7, eσ_7⟩ : ∃ z : St, z = st σ_1 42 0 (Int.toNat x1) x2 := ⟨_, rfl⟩
      rw [← eσ_7] at h
      have hw := hw σ_7 eσ_7
      refine j_iconst X dX11_asked_25 ?_
      exact k_ir X rfl h hw dX11_asked_26
    · have hw := hwf c_8
      refine j_iconst X dX11_asked_13 ?_
      exact k_ir X rfl h hw dX11_asked_14
end
section
variable {p : Program} {l : Launch} {e : Env} {s : State} {m : MethodId} {args : Array Value} {below : List Frame} {meth : Method} {c : Code} {D : va_G} {ct : Nat → ClassId} {ad : Nat → Nat → Nat} {L : List (Nat × Nat)} {φ : Nat → Nat → Nat → Bool} {N0 : Nat}
variable {Q : Int → St → Prop}
theorem pd_X11_rails : yX11_rails.cls ≠ "java/lang/invoke/MethodHandle" ∧ yX11_rails.cls ≠ "java/lang/invoke/VarHandle" ∧ (parseMethodDescriptor yX11_rails.desc).map (fun d => d.parameters.length) = some 1 := by decide +kernel
set_option maxRecDepth 100000 in
set_option maxHeartbeats 4000000 in
theorem c_X11_rails (l : Launch) (D : va_G) (ct : Nat → ClassId) (ad : Nat → Nat → Nat) (L : List (Nat × Nat)) (φ : Nat → Nat → Nat → Bool) (N0 : Nat) (σ : St) (x1 : Int) (Q : Int → St → Prop) (hw : wp_X11_rails σ x1 Q) : Met l yX11_rails (.code yX11_rails cX11_rails 2 (some .int) :: gw) ({ frames := 3, cells := 0, slots := 0, locals := 77 } : Room) (Pm D ct ad L φ N0 σ [.ref (ad 11 0), .int (iv x1)]) (Qi D ct ad L φ N0 Q) 0 0 (AA N0) := by
  refine m_of (by decide) (fun p e s m below meth c X hnm h => ?_)
  have hF := X.2.2.2.2.2.2.2.2.1
  have hl := lv_entry ([.ref (ad 11 0), .int (iv x1)]) (n := 2) (Nat.le_of_ble_eq_true rfl)
  rw [lg_entry_eq]
  generalize (lg_sl ([.ref (ad 11 0), .int (iv x1)]) ++ List.replicate (2 - (lg_sl ([.ref (ad 11 0), .int (iv x1)])).length) Slot.unset).toArray = ls at hl ⊢
  have hl : lv_has ls 2 [(0, .ref (ad 11 0)), (1, .int (iv x1))] := hl
  have h : Hs D ct ad L φ N0 s.heap σ s.heap [] := h
  unfold wp_X11_rails at hw
  refine lv_iload_n X.1 X.2.1 dX11_rails_0 rfl (lv_at hl 1 rfl) ?_
  refine j_iconst X dX11_rails_1 ?_
  refine j_sipush X dX11_rails_2 (by decide) ?_
  refine k_i h (r_S (As := [.int (iv x1), .int (iv 0), .int (iv 999)]) (rest := []) X h (c_X11_within l D ct ad L φ N0 σ x1 0 999 _ hw) rfl rfl ⟨Nat.le_of_ble_eq_true rfl, Nat.le_of_ble_eq_true rfl⟩ kw_526 kw_527 kw_120 kw_528 pd_X11_within rfl hl.1 rfl (Nat.le_of_ble_eq_true rfl) ⟨Nat.le_of_ble_eq_true rfl, Nat.le_of_ble_eq_true rfl⟩ dX11_rails_5) (fun r_2 σ_1 H locs hw h => ?_)
  obtain ⟨g_3, hwt, hwf⟩ := hw
  refine j_if_eq (tgt := 26) X g_3 dX11_rails_8 (by decide) (fun c_6 => ?_) (fun c_6 => ?_)
  · have hw := hwt c_6
    refine j_iconst X dX11_rails_26 ?_
    exact k_ir X rfl h hw dX11_rails_27
  · have hw := hwf c_6
    refine lv_aload_n X.1 X.2.1 dX11_rails_11 rfl (lv_at hl 0 rfl) ?_
    refine r_getR (ci := 11) X inw_11 h (hF.1 11 rfl).1 rfl rfl 18 (by decide) kw_476 rfl ((hF.1 11 rfl).2 18) dX11_rails_12 ?_
    refine lv_iload_n X.1 X.2.1 dX11_rails_15 rfl (lv_at hl 1 rfl) ?_
    refine lv_aload_n X.1 X.2.1 dX11_rails_16 rfl (lv_at hl 0 rfl) ?_
    refine r_get (ci := 11) X inw_11 h (hF.1 11 rfl).1 rfl rfl 7 (by decide) kw_465 rfl dX11_rails_17 ?_
    refine k_i h (r_V (C := RX5) (ci := 5) (As := [.int (iv x1), .int (iv (σ_1 11 0 7))]) (rest := []) X h (c_X5_planRails l D ct ad L φ N0 σ_1 x1 (σ_1 11 0 7) _ hw) rfl rfl ⟨Nat.le_of_ble_eq_true rfl, Nat.le_of_ble_eq_true rfl⟩ kw_1352 kw_1353 kw_1354 kw_127 kw_1355 ⟨rfl, pd_X5_planRails⟩ (hF.1 5 rfl).1 rfl rfl rfl hl.1 rfl (Nat.le_of_ble_eq_true rfl) ⟨Nat.le_of_ble_eq_true rfl, Nat.le_of_ble_eq_true rfl⟩ dX11_rails_20) (fun r_5 σ_4 H locs hw h => ?_)
    refine lv_goto (tgt := 27) X.1 X.2.1 dX11_rails_23 (by decide) ?_
    exact k_ir X rfl h hw dX11_rails_27
end
section
variable {p : Program} {l : Launch} {e : Env} {s : State} {m : MethodId} {args : Array Value} {below : List Frame} {meth : Method} {c : Code} {D : va_G} {ct : Nat → ClassId} {ad : Nat → Nat → Nat} {L : List (Nat × Nat)} {φ : Nat → Nat → Nat → Bool} {N0 : Nat}
variable {Q : Int → St → Prop}
theorem pd_X11_railsOf : yX11_railsOf.cls ≠ "java/lang/invoke/MethodHandle" ∧ yX11_railsOf.cls ≠ "java/lang/invoke/VarHandle" ∧ (parseMethodDescriptor yX11_railsOf.desc).map (fun d => d.parameters.length) = some 2 := by decide +kernel
set_option maxRecDepth 100000 in
set_option maxHeartbeats 4000000 in
theorem c_X11_railsOf (l : Launch) (D : va_G) (ct : Nat → ClassId) (ad : Nat → Nat → Nat) (L : List (Nat × Nat)) (φ : Nat → Nat → Nat → Bool) (N0 : Nat) (σ : St) (x1 : Int) (x2 : Int) (Q : Int → St → Prop) (hw : wp_X11_railsOf σ x1 x2 Q) : Met l yX11_railsOf (.code yX11_railsOf cX11_railsOf 3 (some .int) :: gw) ({ frames := 3, cells := 0, slots := 0, locals := 77 } : Room) (Pm D ct ad L φ N0 σ [.ref (ad 11 0), .int (iv x1), .int (iv x2)]) (Qi D ct ad L φ N0 Q) 0 0 (AA N0) := by
  refine m_of (by decide) (fun p e s m below meth c X hnm h => ?_)
  have hF := X.2.2.2.2.2.2.2.2.1
  have hl := lv_entry ([.ref (ad 11 0), .int (iv x1), .int (iv x2)]) (n := 3) (Nat.le_of_ble_eq_true rfl)
  rw [lg_entry_eq]
  generalize (lg_sl ([.ref (ad 11 0), .int (iv x1), .int (iv x2)]) ++ List.replicate (3 - (lg_sl ([.ref (ad 11 0), .int (iv x1), .int (iv x2)])).length) Slot.unset).toArray = ls at hl ⊢
  have hl : lv_has ls 3 [(0, .ref (ad 11 0)), (1, .int (iv x1)), (2, .int (iv x2))] := hl
  have h : Hs D ct ad L φ N0 s.heap σ s.heap [] := h
  unfold wp_X11_railsOf at hw
  refine lv_iload_n X.1 X.2.1 dX11_railsOf_0 rfl (lv_at hl 1 rfl) ?_
  refine j_iconst X dX11_railsOf_1 ?_
  refine j_sipush X dX11_railsOf_2 (by decide) ?_
  refine k_i h (r_S (As := [.int (iv x1), .int (iv 0), .int (iv 999)]) (rest := []) X h (c_X11_within l D ct ad L φ N0 σ x1 0 999 _ hw) rfl rfl ⟨Nat.le_of_ble_eq_true rfl, Nat.le_of_ble_eq_true rfl⟩ kw_526 kw_527 kw_120 kw_528 pd_X11_within rfl hl.1 rfl (Nat.le_of_ble_eq_true rfl) ⟨Nat.le_of_ble_eq_true rfl, Nat.le_of_ble_eq_true rfl⟩ dX11_railsOf_5) (fun r_2 σ_1 H locs hw h => ?_)
  obtain ⟨g_3, hwt, hwf⟩ := hw
  refine j_if_eq (tgt := 20) X g_3 dX11_railsOf_8 (by decide) (fun c_12 => ?_) (fun c_12 => ?_)
  · have hw := hwt c_12
    refine j_iconst X dX11_railsOf_20 ?_
    exact k_ir X rfl h hw dX11_railsOf_21
  · have hw := hwf c_12
    refine lv_iload_n X.1 X.2.1 dX11_railsOf_11 rfl (lv_at hl 2 rfl) ?_
    refine j_iconst X dX11_railsOf_12 ?_
    refine j_iconst X dX11_railsOf_13 ?_
    refine k_i h (r_S (As := [.int (iv x2), .int (iv 0), .int (iv 3)]) (rest := []) X h (c_X11_within l D ct ad L φ N0 σ_1 x2 0 3 _ hw) rfl rfl ⟨Nat.le_of_ble_eq_true rfl, Nat.le_of_ble_eq_true rfl⟩ kw_526 kw_527 kw_120 kw_528 pd_X11_within rfl hl.1 rfl (Nat.le_of_ble_eq_true rfl) ⟨Nat.le_of_ble_eq_true rfl, Nat.le_of_ble_eq_true rfl⟩ dX11_railsOf_14) (fun r_5 σ_4 H locs hw h => ?_)
    obtain ⟨g_6, hwt, hwf⟩ := hw
    refine j_if_ne (tgt := 22) X g_6 dX11_railsOf_17 (by decide) (fun c_11 => ?_) (fun c_11 => ?_)
    · have hw := hwt c_11
      refine lv_aload_n X.1 X.2.1 dX11_railsOf_22 rfl (lv_at hl 0 rfl) ?_
      refine r_getR (ci := 11) X inw_11 h (hF.1 11 rfl).1 rfl rfl 18 (by decide) kw_476 rfl ((hF.1 11 rfl).2 18) dX11_railsOf_23 ?_
      refine lv_iload_n X.1 X.2.1 dX11_railsOf_26 rfl (lv_at hl 1 rfl) ?_
      refine lv_aload_n X.1 X.2.1 dX11_railsOf_27 rfl (lv_at hl 0 rfl) ?_
      refine r_get (ci := 11) X inw_11 h (hF.1 11 rfl).1 rfl rfl 7 (by decide) kw_465 rfl dX11_railsOf_28 ?_
      refine k_i h (r_V (C := RX5) (ci := 5) (As := [.int (iv x1), .int (iv (σ_4 11 0 7))]) (rest := []) X h (c_X5_planRails l D ct ad L φ N0 σ_4 x1 (σ_4 11 0 7) _ hw) rfl rfl ⟨Nat.le_of_ble_eq_true rfl, Nat.le_of_ble_eq_true rfl⟩ kw_1352 kw_1353 kw_1354 kw_127 kw_1355 ⟨rfl, pd_X5_planRails⟩ (hF.1 5 rfl).1 rfl rfl rfl hl.1 rfl (Nat.le_of_ble_eq_true rfl) ⟨Nat.le_of_ble_eq_true rfl, Nat.le_of_ble_eq_true rfl⟩ dX11_railsOf_31) (fun r_8 σ_7 H locs hw h => ?_)
      refine lv_pop X.1 X.2.1 dX11_railsOf_34 rfl ?_
      refine lv_aload_n X.1 X.2.1 dX11_railsOf_35 rfl (lv_at hl 0 rfl) ?_
      refine r_getR (ci := 11) X inw_11 h (hF.1 11 rfl).1 rfl rfl 18 (by decide) kw_476 rfl ((hF.1 11 rfl).2 18) dX11_railsOf_36 ?_
      refine r_getRN (ci := 5) X inw_5 h (hF.1 5 rfl).1 rfl rfl 10 (by decide) kw_395 rfl ((hF.1 5 rfl).2 10) dX11_railsOf_39 ?_
      refine lv_iload_n X.1 X.2.1 dX11_railsOf_42 rfl (lv_at hl 2 rfl) ?_
      obtain ⟨g_9, g_10, hw⟩ := hw
      refine r_iald (n := 4) X h (hF.1 49 rfl).1 rfl (by decide) g_9 g_10 dX11_railsOf_43 ?_
      exact k_ir X rfl h hw dX11_railsOf_44
    · have hw := hwf c_11
      refine j_iconst X dX11_railsOf_20 ?_
      exact k_ir X rfl h hw dX11_railsOf_21
end
section
variable {p : Program} {l : Launch} {e : Env} {s : State} {m : MethodId} {args : Array Value} {below : List Frame} {meth : Method} {c : Code} {D : va_G} {ct : Nat → ClassId} {ad : Nat → Nat → Nat} {L : List (Nat × Nat)} {φ : Nat → Nat → Nat → Bool} {N0 : Nat}
variable {Q : Int → St → Prop}
theorem pd_X11_forty : yX11_forty.cls ≠ "java/lang/invoke/MethodHandle" ∧ yX11_forty.cls ≠ "java/lang/invoke/VarHandle" ∧ (parseMethodDescriptor yX11_forty.desc).map (fun d => d.parameters.length) = some 7 := by decide +kernel
set_option maxRecDepth 100000 in
set_option maxHeartbeats 4000000 in
theorem c_X11_forty (l : Launch) (D : va_G) (ct : Nat → ClassId) (ad : Nat → Nat → Nat) (L : List (Nat × Nat)) (φ : Nat → Nat → Nat → Bool) (N0 : Nat) (σ : St) (x1 : Int) (x2 : Int) (x3 : Int) (x4 : Int) (x5 : Int) (x6 : Int) (x7 : Int) (Q : Int → St → Prop) (hw : wp_X11_forty σ x1 x2 x3 x4 x5 x6 x7 Q) : Met l yX11_forty (.code yX11_forty cX11_forty 8 (some .int) :: gw) ({ frames := 4, cells := 0, slots := 0, locals := 111 } : Room) (Pm D ct ad L φ N0 σ [.ref (ad 11 0), .int (iv x1), .int (iv x2), .int (iv x3), .int (iv x4), .int (iv x5), .int (iv x6), .int (iv x7)]) (Qi D ct ad L φ N0 Q) 0 0 (AA N0) := by
  refine m_of (by decide) (fun p e s m below meth c X hnm h => ?_)
  have hF := X.2.2.2.2.2.2.2.2.1
  have hl := lv_entry ([.ref (ad 11 0), .int (iv x1), .int (iv x2), .int (iv x3), .int (iv x4), .int (iv x5), .int (iv x6), .int (iv x7)]) (n := 8) (Nat.le_of_ble_eq_true rfl)
  rw [lg_entry_eq]
  generalize (lg_sl ([.ref (ad 11 0), .int (iv x1), .int (iv x2), .int (iv x3), .int (iv x4), .int (iv x5), .int (iv x6), .int (iv x7)]) ++ List.replicate (8 - (lg_sl ([.ref (ad 11 0), .int (iv x1), .int (iv x2), .int (iv x3), .int (iv x4), .int (iv x5), .int (iv x6), .int (iv x7)])).length) Slot.unset).toArray = ls at hl ⊢
  have hl : lv_has ls 8 [(0, .ref (ad 11 0)), (1, .int (iv x1)), (2, .int (iv x2)), (3, .int (iv x3)), (4, .int (iv x4)), (5, .int (iv x5)), (6, .int (iv x6)), (7, .int (iv x7))] := hl
  have h : Hs D ct ad L φ N0 s.heap σ s.heap [] := h
  unfold wp_X11_forty at hw
  refine lv_iload_n X.1 X.2.1 dX11_forty_0 rfl (lv_at hl 1 rfl) ?_
  refine j_iconst X dX11_forty_1 ?_
  refine j_bipush X dX11_forty_2 (by decide) ?_
  refine k_i h (r_S (As := [.int (iv x1), .int (iv 0), .int (iv 9)]) (rest := []) X h (c_X11_within l D ct ad L φ N0 σ x1 0 9 _ hw) rfl rfl ⟨Nat.le_of_ble_eq_true rfl, Nat.le_of_ble_eq_true rfl⟩ kw_526 kw_527 kw_120 kw_528 pd_X11_within rfl hl.1 rfl (Nat.le_of_ble_eq_true rfl) ⟨Nat.le_of_ble_eq_true rfl, Nat.le_of_ble_eq_true rfl⟩ dX11_forty_4) (fun r_2 σ_1 H locs hw h => ?_)
  obtain ⟨g_3, hwt, hwf⟩ := hw
  refine j_if_eq (tgt := 41) X g_3 dX11_forty_7 (by decide) (fun c_33 => ?_) (fun c_33 => ?_)
  · have hw := hwt c_33
    refine j_iconst X dX11_forty_41 ?_
    exact k_ir X rfl h hw dX11_forty_42
  · have hw := hwf c_33
    refine lv_iload_n X.1 X.2.1 dX11_forty_10 rfl (lv_at hl 2 rfl) ?_
    refine j_iconst X dX11_forty_11 ?_
    refine j_bipush X dX11_forty_12 (by decide) ?_
    refine k_i h (r_S (As := [.int (iv x2), .int (iv 0), .int (iv 9)]) (rest := []) X h (c_X11_within l D ct ad L φ N0 σ_1 x2 0 9 _ hw) rfl rfl ⟨Nat.le_of_ble_eq_true rfl, Nat.le_of_ble_eq_true rfl⟩ kw_526 kw_527 kw_120 kw_528 pd_X11_within rfl hl.1 rfl (Nat.le_of_ble_eq_true rfl) ⟨Nat.le_of_ble_eq_true rfl, Nat.le_of_ble_eq_true rfl⟩ dX11_forty_14) (fun r_5 σ_4 H locs hw h => ?_)
    obtain ⟨g_6, hwt, hwf⟩ := hw
    refine j_if_eq (tgt := 41) X g_6 dX11_forty_17 (by decide) (fun c_32 => ?_) (fun c_32 => ?_)
    · have hw := hwt c_32
      refine j_iconst X dX11_forty_41 ?_
      exact k_ir X rfl h hw dX11_forty_42
    · have hw := hwf c_32
      refine lv_iload_n X.1 X.2.1 dX11_forty_20 rfl (lv_at hl 3 rfl) ?_
      refine j_iconst X dX11_forty_21 ?_
      refine j_bipush X dX11_forty_22 (by decide) ?_
      refine k_i h (r_S (As := [.int (iv x3), .int (iv 0), .int (iv 9)]) (rest := []) X h (c_X11_within l D ct ad L φ N0 σ_4 x3 0 9 _ hw) rfl rfl ⟨Nat.le_of_ble_eq_true rfl, Nat.le_of_ble_eq_true rfl⟩ kw_526 kw_527 kw_120 kw_528 pd_X11_within rfl hl.1 rfl (Nat.le_of_ble_eq_true rfl) ⟨Nat.le_of_ble_eq_true rfl, Nat.le_of_ble_eq_true rfl⟩ dX11_forty_24) (fun r_8 σ_7 H locs hw h => ?_)
      obtain ⟨g_9, hwt, hwf⟩ := hw
      refine j_if_eq (tgt := 41) X g_9 dX11_forty_27 (by decide) (fun c_31 => ?_) (fun c_31 => ?_)
      · have hw := hwt c_31
        refine j_iconst X dX11_forty_41 ?_
        exact k_ir X rfl h hw dX11_forty_42
      · have hw := hwf c_31
        refine lv_iload X.1 X.2.1 dX11_forty_30 (lv_at hl 4 rfl) ?_
        refine j_iconst X dX11_forty_32 ?_
        refine j_bipush X dX11_forty_33 (by decide) ?_
        refine k_i h (r_S (As := [.int (iv x4), .int (iv 0), .int (iv 9)]) (rest := []) X h (c_X11_within l D ct ad L φ N0 σ_7 x4 0 9 _ hw) rfl rfl ⟨Nat.le_of_ble_eq_true rfl, Nat.le_of_ble_eq_true rfl⟩ kw_526 kw_527 kw_120 kw_528 pd_X11_within rfl hl.1 rfl (Nat.le_of_ble_eq_true rfl) ⟨Nat.le_of_ble_eq_true rfl, Nat.le_of_ble_eq_true rfl⟩ dX11_forty_35) (fun r_11 σ_10 H locs hw h => ?_)
        obtain ⟨g_12, hwt, hwf⟩ := hw
        refine j_if_ne (tgt := 43) X g_12 dX11_forty_38 (by decide) (fun c_30 => ?_) (fun c_30 => ?_)
        · have hw := hwt c_30
          refine lv_iload_n X.1 X.2.1 dX11_forty_43 rfl (lv_at hl 1 rfl) ?_
          refine lv_iload_n X.1 X.2.1 dX11_forty_44 rfl (lv_at hl 2 rfl) ?_
          refine j_iadd X dX11_forty_45 ?_
          refine lv_iload_n X.1 X.2.1 dX11_forty_46 rfl (lv_at hl 3 rfl) ?_
          refine j_iadd X dX11_forty_47 ?_
          refine lv_iload X.1 X.2.1 dX11_forty_48 (lv_at hl 4 rfl) ?_
          refine j_iadd X dX11_forty_50 ?_
          refine j_bipush X dX11_forty_51 (by decide) ?_
          obtain ⟨g_13, hwt, hwf⟩ := hw
          refine j_cmp_gt (tgt := 67) X g_13 ⟨by decide, by decide⟩ dX11_forty_53 (by decide) (fun c_29 => ?_) (fun c_29 => ?_)
          · have hw := hwt c_29
            refine j_iconst X dX11_forty_67 ?_
            exact k_ir X rfl h hw dX11_forty_68
          · have hw := hwf c_29
            refine lv_iload X.1 X.2.1 dX11_forty_56 (lv_at hl 7 rfl) ?_
            refine j_iconst X dX11_forty_58 ?_
            refine j_bipush X dX11_forty_59 (by decide) ?_
            refine k_i h (r_S (As := [.int (iv x7), .int (iv 0), .int (iv 12)]) (rest := []) X h (c_X11_within l D ct ad L φ N0 σ_10 x7 0 12 _ hw) rfl rfl ⟨Nat.le_of_ble_eq_true rfl, Nat.le_of_ble_eq_true rfl⟩ kw_526 kw_527 kw_120 kw_528 pd_X11_within rfl hl.1 rfl (Nat.le_of_ble_eq_true rfl) ⟨Nat.le_of_ble_eq_true rfl, Nat.le_of_ble_eq_true rfl⟩ dX11_forty_61) (fun r_15 σ_14 H locs hw h => ?_)
            obtain ⟨g_16, hwt, hwf⟩ := hw
            refine j_if_ne (tgt := 69) X g_16 dX11_forty_64 (by decide) (fun c_28 => ?_) (fun c_28 => ?_)
            · have hw := hwt c_28
              refine lv_iload X.1 X.2.1 dX11_forty_69 (lv_at hl 5 rfl) ?_
              refine j_iconst X dX11_forty_71 ?_
              refine j_bipush X dX11_forty_72 (by decide) ?_
              refine k_i h (r_S (As := [.int (iv x5), .int (iv 0), .int (iv 60)]) (rest := []) X h (c_X11_within l D ct ad L φ N0 σ_14 x5 0 60 _ hw) rfl rfl ⟨Nat.le_of_ble_eq_true rfl, Nat.le_of_ble_eq_true rfl⟩ kw_526 kw_527 kw_120 kw_528 pd_X11_within rfl hl.1 rfl (Nat.le_of_ble_eq_true rfl) ⟨Nat.le_of_ble_eq_true rfl, Nat.le_of_ble_eq_true rfl⟩ dX11_forty_74) (fun r_18 σ_17 H locs hw h => ?_)
              obtain ⟨g_19, hwt, hwf⟩ := hw
              refine j_if_eq (tgt := 91) X g_19 dX11_forty_77 (by decide) (fun c_27 => ?_) (fun c_27 => ?_)
              · have hw := hwt c_27
                refine j_iconst X dX11_forty_91 ?_
                exact k_ir X rfl h hw dX11_forty_92
              · have hw := hwf c_27
                refine lv_iload X.1 X.2.1 dX11_forty_80 (lv_at hl 6 rfl) ?_
                refine j_iconst X dX11_forty_82 ?_
                refine j_bipush X dX11_forty_83 (by decide) ?_
                refine k_i h (r_S (As := [.int (iv x6), .int (iv 0), .int (iv 60)]) (rest := []) X h (c_X11_within l D ct ad L φ N0 σ_17 x6 0 60 _ hw) rfl rfl ⟨Nat.le_of_ble_eq_true rfl, Nat.le_of_ble_eq_true rfl⟩ kw_526 kw_527 kw_120 kw_528 pd_X11_within rfl hl.1 rfl (Nat.le_of_ble_eq_true rfl) ⟨Nat.le_of_ble_eq_true rfl, Nat.le_of_ble_eq_true rfl⟩ dX11_forty_85) (fun r_21 σ_20 H locs hw h => ?_)
                obtain ⟨g_22, hwt, hwf⟩ := hw
                refine j_if_ne (tgt := 93) X g_22 dX11_forty_88 (by decide) (fun c_26 => ?_) (fun c_26 => ?_)
                · have hw := hwt c_26
                  refine lv_aload_n X.1 X.2.1 dX11_forty_93 rfl (lv_at hl 0 rfl) ?_
                  refine r_getR (ci := 11) X inw_11 h (hF.1 11 rfl).1 rfl rfl 18 (by decide) kw_476 rfl ((hF.1 11 rfl).2 18) dX11_forty_94 ?_
                  refine lv_iload_n X.1 X.2.1 dX11_forty_97 rfl (lv_at hl 1 rfl) ?_
                  refine lv_iload_n X.1 X.2.1 dX11_forty_98 rfl (lv_at hl 2 rfl) ?_
                  refine lv_iload_n X.1 X.2.1 dX11_forty_99 rfl (lv_at hl 3 rfl) ?_
                  refine lv_iload X.1 X.2.1 dX11_forty_100 (lv_at hl 4 rfl) ?_
                  refine k_v h (r_V (C := RX5) (ci := 5) (As := [.int (iv x1), .int (iv x2), .int (iv x3), .int (iv x4)]) (rest := []) X h (c_X5_startCuts l D ct ad L φ N0 σ_20 x1 x2 x3 x4 _ hw) rfl rfl ⟨Nat.le_of_ble_eq_true rfl, Nat.le_of_ble_eq_true rfl⟩ kw_1395 kw_1396 kw_1397 kw_127 kw_1398 ⟨rfl, pd_X5_startCuts⟩ (hF.1 5 rfl).1 rfl rfl rfl hl.1 rfl (Nat.le_of_ble_eq_true rfl) ⟨Nat.le_of_ble_eq_true rfl, Nat.le_of_ble_eq_true rfl⟩ dX11_forty_102) (fun σ_23 H locs hw h => ?_)
                  refine lv_aload_n X.1 X.2.1 dX11_forty_105 rfl (lv_at hl 0 rfl) ?_
                  refine r_getR (ci := 11) X inw_11 h (hF.1 11 rfl).1 rfl rfl 18 (by decide) kw_476 rfl ((hF.1 11 rfl).2 18) dX11_forty_106 ?_
                  refine lv_iload X.1 X.2.1 dX11_forty_109 (lv_at hl 5 rfl) ?_
                  refine lv_iload X.1 X.2.1 dX11_forty_111 (lv_at hl 6 rfl) ?_
                  refine lv_iload X.1 X.2.1 dX11_forty_113 (lv_at hl 7 rfl) ?_
                  refine k_i h (r_V (C := RX5) (ci := 5) (As := [.int (iv x5), .int (iv x6), .int (iv x7)]) (rest := []) X h (c_X5_planCuts l D ct ad L φ N0 σ_23 x5 x6 x7 _ hw) rfl rfl ⟨Nat.le_of_ble_eq_true rfl, Nat.le_of_ble_eq_true rfl⟩ kw_1399 kw_1400 kw_1401 kw_127 kw_1402 ⟨rfl, pd_X5_planCuts⟩ (hF.1 5 rfl).1 rfl rfl rfl hl.1 rfl (Nat.le_of_ble_eq_true rfl) ⟨Nat.le_of_ble_eq_true rfl, Nat.le_of_ble_eq_true rfl⟩ dX11_forty_115) (fun r_25 σ_24 H locs hw h => ?_)
                  exact k_ir X rfl h hw dX11_forty_118
                · have hw := hwf c_26
                  refine j_iconst X dX11_forty_91 ?_
                  exact k_ir X rfl h hw dX11_forty_92
            · have hw := hwf c_28
              refine j_iconst X dX11_forty_67 ?_
              exact k_ir X rfl h hw dX11_forty_68
        · have hw := hwf c_30
          refine j_iconst X dX11_forty_41 ?_
          exact k_ir X rfl h hw dX11_forty_42
end
section
variable {p : Program} {l : Launch} {e : Env} {s : State} {m : MethodId} {args : Array Value} {below : List Frame} {meth : Method} {c : Code} {D : va_G} {ct : Nat → ClassId} {ad : Nat → Nat → Nat} {L : List (Nat × Nat)} {φ : Nat → Nat → Nat → Bool} {N0 : Nat}
variable {Q : Int → St → Prop}
theorem pd_X11_cutIn : yX11_cutIn.cls ≠ "java/lang/invoke/MethodHandle" ∧ yX11_cutIn.cls ≠ "java/lang/invoke/VarHandle" ∧ (parseMethodDescriptor yX11_cutIn.desc).map (fun d => d.parameters.length) = some 2 := by decide +kernel
set_option maxRecDepth 100000 in
set_option maxHeartbeats 4000000 in
theorem c_X11_cutIn (l : Launch) (D : va_G) (ct : Nat → ClassId) (ad : Nat → Nat → Nat) (L : List (Nat × Nat)) (φ : Nat → Nat → Nat → Bool) (N0 : Nat) (σ : St) (x1 : Int) (x2 : Int) (Q : Int → St → Prop) (hw : wp_X11_cutIn σ x1 x2 Q) : Met l yX11_cutIn (.code yX11_cutIn cX11_cutIn 3 (some .int) :: gw) ({ frames := 1, cells := 0, slots := 0, locals := 22 } : Room) (Pm D ct ad L φ N0 σ [.ref (ad 11 0), .int (iv x1), .int (iv x2)]) (Qi D ct ad L φ N0 Q) 0 0 (AA N0) := by
  refine m_of (by decide) (fun p e s m below meth c X hnm h => ?_)
  have hF := X.2.2.2.2.2.2.2.2.1
  have hl := lv_entry ([.ref (ad 11 0), .int (iv x1), .int (iv x2)]) (n := 3) (Nat.le_of_ble_eq_true rfl)
  rw [lg_entry_eq]
  generalize (lg_sl ([.ref (ad 11 0), .int (iv x1), .int (iv x2)]) ++ List.replicate (3 - (lg_sl ([.ref (ad 11 0), .int (iv x1), .int (iv x2)])).length) Slot.unset).toArray = ls at hl ⊢
  have hl : lv_has ls 3 [(0, .ref (ad 11 0)), (1, .int (iv x1)), (2, .int (iv x2))] := hl
  have h : Hs D ct ad L φ N0 s.heap σ s.heap [] := h
  unfold wp_X11_cutIn at hw
  refine lv_aload_n X.1 X.2.1 dX11_cutIn_0 rfl (lv_at hl 0 rfl) ?_
  refine r_getR (ci := 11) X inw_11 h (hF.1 11 rfl).1 rfl rfl 18 (by decide) kw_476 rfl ((hF.1 11 rfl).2 18) dX11_cutIn_1 ?_
  refine r_getN (ci := 5) X inw_5 h (hF.1 5 rfl).1 rfl rfl 16 (by decide) kw_403 rfl dX11_cutIn_4 ?_
  obtain ⟨g_1, hwt, hwf⟩ := hw
  refine j_if_eq (tgt := 29) X g_1 dX11_cutIn_7 (by decide) (fun c_12 => ?_) (fun c_12 => ?_)
  · have hw := hwt c_12
    refine j_iconst X dX11_cutIn_29 ?_
    exact k_ir X rfl h hw dX11_cutIn_30
  · have hw := hwf c_12
    refine lv_iload_n X.1 X.2.1 dX11_cutIn_10 rfl (lv_at hl 1 rfl) ?_
    refine j_iconst X dX11_cutIn_11 ?_
    refine j_bipush X dX11_cutIn_12 (by decide) ?_
    refine k_i h (r_S (As := [.int (iv x1), .int (iv 0), .int (iv 7)]) (rest := []) X h (c_X11_within l D ct ad L φ N0 σ x1 0 7 _ hw) rfl rfl ⟨Nat.le_of_ble_eq_true rfl, Nat.le_of_ble_eq_true rfl⟩ kw_526 kw_527 kw_120 kw_528 pd_X11_within rfl hl.1 rfl (Nat.le_of_ble_eq_true rfl) ⟨Nat.le_of_ble_eq_true rfl, Nat.le_of_ble_eq_true rfl⟩ dX11_cutIn_14) (fun r_3 σ_2 H locs hw h => ?_)
    obtain ⟨g_4, hwt, hwf⟩ := hw
    refine j_if_eq (tgt := 29) X g_4 dX11_cutIn_17 (by decide) (fun c_11 => ?_) (fun c_11 => ?_)
    · have hw := hwt c_11
      refine j_iconst X dX11_cutIn_29 ?_
      exact k_ir X rfl h hw dX11_cutIn_30
    · have hw := hwf c_11
      refine lv_iload_n X.1 X.2.1 dX11_cutIn_20 rfl (lv_at hl 2 rfl) ?_
      refine j_iconst X dX11_cutIn_21 ?_
      refine j_iconst X dX11_cutIn_22 ?_
      refine k_i h (r_S (As := [.int (iv x2), .int (iv 0), .int (iv 1)]) (rest := []) X h (c_X11_within l D ct ad L φ N0 σ_2 x2 0 1 _ hw) rfl rfl ⟨Nat.le_of_ble_eq_true rfl, Nat.le_of_ble_eq_true rfl⟩ kw_526 kw_527 kw_120 kw_528 pd_X11_within rfl hl.1 rfl (Nat.le_of_ble_eq_true rfl) ⟨Nat.le_of_ble_eq_true rfl, Nat.le_of_ble_eq_true rfl⟩ dX11_cutIn_23) (fun r_6 σ_5 H locs hw h => ?_)
      obtain ⟨g_7, hwt, hwf⟩ := hw
      refine j_if_ne (tgt := 31) X g_7 dX11_cutIn_26 (by decide) (fun c_10 => ?_) (fun c_10 => ?_)
      · have hw := hwt c_10
        refine lv_aload_n X.1 X.2.1 dX11_cutIn_31 rfl (lv_at hl 0 rfl) ?_
        refine r_getR (ci := 11) X inw_11 h (hF.1 11 rfl).1 rfl rfl 18 (by decide) kw_476 rfl ((hF.1 11 rfl).2 18) dX11_cutIn_32 ?_
        refine r_getRN (ci := 5) X inw_5 h (hF.1 5 rfl).1 rfl rfl 15 (by decide) kw_401 rfl ((hF.1 5 rfl).2 15) dX11_cutIn_35 ?_
        refine j_iconst X dX11_cutIn_38 ?_
        refine lv_iload_n X.1 X.2.1 dX11_cutIn_39 rfl (lv_at hl 1 rfl) ?_
        refine j_imul X dX11_cutIn_40 ?_
        refine lv_iload_n X.1 X.2.1 dX11_cutIn_41 rfl (lv_at hl 2 rfl) ?_
        refine j_iadd X dX11_cutIn_42 ?_
        obtain ⟨g_8, g_9, hw⟩ := hw
        refine r_iald (n := 16) X h (hF.1 54 rfl).1 rfl (by decide) g_8 g_9 dX11_cutIn_43 ?_
        exact k_ir X rfl h hw dX11_cutIn_44
      · have hw := hwf c_10
        refine j_iconst X dX11_cutIn_29 ?_
        exact k_ir X rfl h hw dX11_cutIn_30
end
section
variable {p : Program} {l : Launch} {e : Env} {s : State} {m : MethodId} {args : Array Value} {below : List Frame} {meth : Method} {c : Code} {D : va_G} {ct : Nat → ClassId} {ad : Nat → Nat → Nat} {L : List (Nat × Nat)} {φ : Nat → Nat → Nat → Bool} {N0 : Nat}
variable {Q : Int → St → Prop}
theorem pd_X11_row : yX11_row.cls ≠ "java/lang/invoke/MethodHandle" ∧ yX11_row.cls ≠ "java/lang/invoke/VarHandle" ∧ (parseMethodDescriptor yX11_row.desc).map (fun d => d.parameters.length) = some 3 := by decide +kernel
set_option maxRecDepth 100000 in
set_option maxHeartbeats 4000000 in
theorem c_X11_row (l : Launch) (D : va_G) (ct : Nat → ClassId) (ad : Nat → Nat → Nat) (L : List (Nat × Nat)) (φ : Nat → Nat → Nat → Bool) (N0 : Nat) (σ : St) (x1 : Int) (x2 : Int) (x3 : Int) (Q : Int → St → Prop) (hw : wp_X11_row σ x1 x2 x3 Q) : Met l yX11_row (.code yX11_row cX11_row 4 (some .boolean) :: gw) ({ frames := 1, cells := 0, slots := 0, locals := 24 } : Room) (Pm D ct ad L φ N0 σ [.ref (ad 11 0), .int (iv x1), .int (iv x2), .int (iv x3)]) (Qi D ct ad L φ N0 Q) 0 0 (AA N0) := by
  refine m_of (by decide) (fun p e s m below meth c X hnm h => ?_)
  have hF := X.2.2.2.2.2.2.2.2.1
  have hl := lv_entry ([.ref (ad 11 0), .int (iv x1), .int (iv x2), .int (iv x3)]) (n := 4) (Nat.le_of_ble_eq_true rfl)
  rw [lg_entry_eq]
  generalize (lg_sl ([.ref (ad 11 0), .int (iv x1), .int (iv x2), .int (iv x3)]) ++ List.replicate (4 - (lg_sl ([.ref (ad 11 0), .int (iv x1), .int (iv x2), .int (iv x3)])).length) Slot.unset).toArray = ls at hl ⊢
  have hl : lv_has ls 4 [(0, .ref (ad 11 0)), (1, .int (iv x1)), (2, .int (iv x2)), (3, .int (iv x3))] := hl
  have h : Hs D ct ad L φ N0 s.heap σ s.heap [] := h
  unfold wp_X11_row at hw
  refine lv_iload_n X.1 X.2.1 dX11_row_0 rfl (lv_at hl 1 rfl) ?_
  refine j_iconst X dX11_row_1 ?_
  refine j_iconst X dX11_row_2 ?_
  refine k_i h (r_S (As := [.int (iv x1), .int (iv 0), .int (iv 3)]) (rest := []) X h (c_X11_within l D ct ad L φ N0 σ x1 0 3 _ hw) rfl rfl ⟨Nat.le_of_ble_eq_true rfl, Nat.le_of_ble_eq_true rfl⟩ kw_526 kw_527 kw_120 kw_528 pd_X11_within rfl hl.1 rfl (Nat.le_of_ble_eq_true rfl) ⟨Nat.le_of_ble_eq_true rfl, Nat.le_of_ble_eq_true rfl⟩ dX11_row_3) (fun r_2 σ_1 H locs hw h => ?_)
  obtain ⟨g_3, hwt, hwf⟩ := hw
  refine j_if_eq (tgt := 19) X g_3 dX11_row_6 (by decide) (fun c_9 => ?_) (fun c_9 => ?_)
  · have hw := hwt c_9
    refine j_iconst X dX11_row_19 ?_
    exact k_ir X rfl h hw dX11_row_20
  · have hw := hwf c_9
    refine lv_iload_n X.1 X.2.1 dX11_row_9 rfl (lv_at hl 3 rfl) ?_
    refine j_iconst X dX11_row_10 ?_
    refine j_bipush X dX11_row_11 (by decide) ?_
    refine k_i h (r_S (As := [.int (iv x3), .int (iv 0), .int (iv 40)]) (rest := []) X h (c_X11_within l D ct ad L φ N0 σ_1 x3 0 40 _ hw) rfl rfl ⟨Nat.le_of_ble_eq_true rfl, Nat.le_of_ble_eq_true rfl⟩ kw_526 kw_527 kw_120 kw_528 pd_X11_within rfl hl.1 rfl (Nat.le_of_ble_eq_true rfl) ⟨Nat.le_of_ble_eq_true rfl, Nat.le_of_ble_eq_true rfl⟩ dX11_row_13) (fun r_5 σ_4 H locs hw h => ?_)
    obtain ⟨g_6, hwt, hwf⟩ := hw
    refine j_if_ne (tgt := 21) X g_6 dX11_row_16 (by decide) (fun c_8 => ?_) (fun c_8 => ?_)
    · have hw := hwt c_8
      refine lv_aload_n X.1 X.2.1 dX11_row_21 rfl (lv_at hl 0 rfl) ?_
      refine r_getR (ci := 11) X inw_11 h (hF.1 11 rfl).1 rfl rfl 19 (by decide) kw_477 rfl ((hF.1 11 rfl).2 19) dX11_row_22 ?_
      refine lv_iload_n X.1 X.2.1 dX11_row_25 rfl (lv_at hl 1 rfl) ?_
      refine lv_iload_n X.1 X.2.1 dX11_row_26 rfl (lv_at hl 2 rfl) ?_
      refine lv_iload_n X.1 X.2.1 dX11_row_27 rfl (lv_at hl 3 rfl) ?_
      refine k_v h (r_V (C := RX2) (ci := 2) (As := [.int (iv x1), .int (iv x2), .int (iv x3)]) (rest := []) X h (c_X2_begin l D ct ad L φ N0 σ_4 x1 x2 x3 _ hw) rfl rfl ⟨Nat.le_of_ble_eq_true rfl, Nat.le_of_ble_eq_true rfl⟩ kw_1431 kw_1432 kw_1433 kw_128 kw_1434 ⟨rfl, pd_X2_begin⟩ (hF.1 2 rfl).1 rfl rfl rfl hl.1 rfl (Nat.le_of_ble_eq_true rfl) ⟨Nat.le_of_ble_eq_true rfl, Nat.le_of_ble_eq_true rfl⟩ dX11_row_28) (fun σ_7 H locs hw h => ?_)
      refine j_iconst X dX11_row_31 ?_
      exact k_ir X rfl h hw dX11_row_32
    · have hw := hwf c_8
      refine j_iconst X dX11_row_19 ?_
      exact k_ir X rfl h hw dX11_row_20
end
section
variable {p : Program} {l : Launch} {e : Env} {s : State} {m : MethodId} {args : Array Value} {below : List Frame} {meth : Method} {c : Code} {D : va_G} {ct : Nat → ClassId} {ad : Nat → Nat → Nat} {L : List (Nat × Nat)} {φ : Nat → Nat → Nat → Bool} {N0 : Nat}
variable {Q : Int → St → Prop}
theorem pd_X11_write : yX11_write.cls ≠ "java/lang/invoke/MethodHandle" ∧ yX11_write.cls ≠ "java/lang/invoke/VarHandle" ∧ (parseMethodDescriptor yX11_write.desc).map (fun d => d.parameters.length) = some 3 := by decide +kernel
set_option maxRecDepth 100000 in
set_option maxHeartbeats 4000000 in
theorem c_X11_write (l : Launch) (D : va_G) (ct : Nat → ClassId) (ad : Nat → Nat → Nat) (L : List (Nat × Nat)) (φ : Nat → Nat → Nat → Bool) (N0 : Nat) (σ : St) (x1 : Int) (x2 : Int) (x3 : Int) (Q : Int → St → Prop) (hw : wp_X11_write σ x1 x2 x3 Q) : Met l yX11_write (.code yX11_write cX11_write 4 (some .boolean) :: gw) ({ frames := 3, cells := 0, slots := 0, locals := 65 } : Room) (Pm D ct ad L φ N0 σ [.ref (ad 11 0), .int (iv x1), .int (iv x2), .int (iv x3)]) (Qi D ct ad L φ N0 Q) 0 0 (AA N0) := by
  refine m_of (by decide) (fun p e s m below meth c X hnm h => ?_)
  have hF := X.2.2.2.2.2.2.2.2.1
  have hl := lv_entry ([.ref (ad 11 0), .int (iv x1), .int (iv x2), .int (iv x3)]) (n := 4) (Nat.le_of_ble_eq_true rfl)
  rw [lg_entry_eq]
  generalize (lg_sl ([.ref (ad 11 0), .int (iv x1), .int (iv x2), .int (iv x3)]) ++ List.replicate (4 - (lg_sl ([.ref (ad 11 0), .int (iv x1), .int (iv x2), .int (iv x3)])).length) Slot.unset).toArray = ls at hl ⊢
  have hl : lv_has ls 4 [(0, .ref (ad 11 0)), (1, .int (iv x1)), (2, .int (iv x2)), (3, .int (iv x3))] := hl
  have h : Hs D ct ad L φ N0 s.heap σ s.heap [] := h
  unfold wp_X11_write at hw
  refine lv_aload_n X.1 X.2.1 dX11_write_0 rfl (lv_at hl 0 rfl) ?_
  refine r_getR (ci := 11) X inw_11 h (hF.1 11 rfl).1 rfl rfl 19 (by decide) kw_477 rfl ((hF.1 11 rfl).2 19) dX11_write_1 ?_
  refine lv_iload_n X.1 X.2.1 dX11_write_4 rfl (lv_at hl 1 rfl) ?_
  refine lv_iload_n X.1 X.2.1 dX11_write_5 rfl (lv_at hl 2 rfl) ?_
  refine k_i h (r_V (C := RX2) (ci := 2) (As := [.int (iv x1), .int (iv x2)]) (rest := []) X h (c_X2_hasPlace l D ct ad L φ N0 σ x1 x2 _ hw) rfl rfl ⟨Nat.le_of_ble_eq_true rfl, Nat.le_of_ble_eq_true rfl⟩ kw_1439 kw_1440 kw_1441 kw_128 kw_1442 ⟨rfl, pd_X2_hasPlace⟩ (hF.1 2 rfl).1 rfl rfl rfl hl.1 rfl (Nat.le_of_ble_eq_true rfl) ⟨Nat.le_of_ble_eq_true rfl, Nat.le_of_ble_eq_true rfl⟩ dX11_write_6) (fun r_2 σ_1 H locs hw h => ?_)
  obtain ⟨g_3, hwt, hwf⟩ := hw
  refine j_if_eq (tgt := 29) X g_3 dX11_write_9 (by decide) (fun c_8 => ?_) (fun c_8 => ?_)
  · have hw := hwt c_8
    refine j_iconst X dX11_write_29 ?_
    exact k_ir X rfl h hw dX11_write_30
  · have hw := hwf c_8
    refine lv_aload_n X.1 X.2.1 dX11_write_12 rfl (lv_at hl 0 rfl) ?_
    refine r_getR (ci := 11) X inw_11 h (hF.1 11 rfl).1 rfl rfl 19 (by decide) kw_477 rfl ((hF.1 11 rfl).2 19) dX11_write_13 ?_
    refine lv_iload_n X.1 X.2.1 dX11_write_16 rfl (lv_at hl 1 rfl) ?_
    refine lv_iload_n X.1 X.2.1 dX11_write_17 rfl (lv_at hl 2 rfl) ?_
    refine lv_iload_n X.1 X.2.1 dX11_write_18 rfl (lv_at hl 3 rfl) ?_
    refine k_i h (r_V (C := RX2) (ci := 2) (As := [.int (iv x1), .int (iv x2), .int (iv x3)]) (rest := []) X h (c_X2_put l D ct ad L φ N0 σ_1 x1 x2 x3 _ hw) rfl rfl ⟨Nat.le_of_ble_eq_true rfl, Nat.le_of_ble_eq_true rfl⟩ kw_1448 kw_1449 kw_1450 kw_128 kw_1451 ⟨rfl, pd_X2_put⟩ (hF.1 2 rfl).1 rfl rfl rfl hl.1 rfl (Nat.le_of_ble_eq_true rfl) ⟨Nat.le_of_ble_eq_true rfl, Nat.le_of_ble_eq_true rfl⟩ dX11_write_19) (fun r_5 σ_4 H locs hw h => ?_)
    obtain ⟨g_6, hwt, hwf⟩ := hw
    refine j_if_eq (tgt := 29) X g_6 dX11_write_22 (by decide) (fun c_7 => ?_) (fun c_7 => ?_)
    · have hw := hwt c_7
      refine j_iconst X dX11_write_29 ?_
      exact k_ir X rfl h hw dX11_write_30
    · have hw := hwf c_7
      refine j_iconst X dX11_write_25 ?_
      refine lv_goto (tgt := 30) X.1 X.2.1 dX11_write_26 (by decide) ?_
      exact k_ir X rfl h hw dX11_write_30
end
section
variable {p : Program} {l : Launch} {e : Env} {s : State} {m : MethodId} {args : Array Value} {below : List Frame} {meth : Method} {c : Code} {D : va_G} {ct : Nat → ClassId} {ad : Nat → Nat → Nat} {L : List (Nat × Nat)} {φ : Nat → Nat → Nat → Bool} {N0 : Nat}
variable {Q : Int → St → Prop}
theorem pd_X11_cruise : yX11_cruise.cls ≠ "java/lang/invoke/MethodHandle" ∧ yX11_cruise.cls ≠ "java/lang/invoke/VarHandle" ∧ (parseMethodDescriptor yX11_cruise.desc).map (fun d => d.parameters.length) = some 2 := by decide +kernel
set_option maxRecDepth 100000 in
set_option maxHeartbeats 4000000 in
theorem c_X11_cruise (l : Launch) (D : va_G) (ct : Nat → ClassId) (ad : Nat → Nat → Nat) (L : List (Nat × Nat)) (φ : Nat → Nat → Nat → Bool) (N0 : Nat) (σ : St) (x1 : Int) (x2 : Int) (Q : Int → St → Prop) (hw : wp_X11_cruise σ x1 x2 Q) : Met l yX11_cruise (.code yX11_cruise cX11_cruise 3 (some .int) :: gw) ({ frames := 3, cells := 0, slots := 0, locals := 72 } : Room) (Pm D ct ad L φ N0 σ [.ref (ad 11 0), .int (iv x1), .int (iv x2)]) (Qi D ct ad L φ N0 Q) 0 0 (AA N0) := by
  refine m_of (by decide) (fun p e s m below meth c X hnm h => ?_)
  have hF := X.2.2.2.2.2.2.2.2.1
  have hl := lv_entry ([.ref (ad 11 0), .int (iv x1), .int (iv x2)]) (n := 3) (Nat.le_of_ble_eq_true rfl)
  rw [lg_entry_eq]
  generalize (lg_sl ([.ref (ad 11 0), .int (iv x1), .int (iv x2)]) ++ List.replicate (3 - (lg_sl ([.ref (ad 11 0), .int (iv x1), .int (iv x2)])).length) Slot.unset).toArray = ls at hl ⊢
  have hl : lv_has ls 3 [(0, .ref (ad 11 0)), (1, .int (iv x1)), (2, .int (iv x2))] := hl
  have h : Hs D ct ad L φ N0 s.heap σ s.heap [] := h
  unfold wp_X11_cruise at hw
  refine lv_aload_n X.1 X.2.1 dX11_cruise_0 rfl (lv_at hl 0 rfl) ?_
  refine r_getR (ci := 11) X inw_11 h (hF.1 11 rfl).1 rfl rfl 19 (by decide) kw_477 rfl ((hF.1 11 rfl).2 19) dX11_cruise_1 ?_
  refine lv_iload_n X.1 X.2.1 dX11_cruise_4 rfl (lv_at hl 1 rfl) ?_
  refine k_i h (r_V (C := RX2) (ci := 2) (As := [.int (iv x1)]) (rest := []) X h (c_X2_hasRow l D ct ad L φ N0 σ x1 _ hw) rfl rfl ⟨Nat.le_of_ble_eq_true rfl, Nat.le_of_ble_eq_true rfl⟩ kw_1458 kw_1444 kw_1445 kw_128 kw_1446 ⟨rfl, pd_X2_hasRow⟩ (hF.1 2 rfl).1 rfl rfl rfl hl.1 rfl (Nat.le_of_ble_eq_true rfl) ⟨Nat.le_of_ble_eq_true rfl, Nat.le_of_ble_eq_true rfl⟩ dX11_cruise_5) (fun r_2 σ_1 H locs hw h => ?_)
  obtain ⟨g_3, hwt, hwf⟩ := hw
  refine j_if_eq (tgt := 20) X g_3 dX11_cruise_8 (by decide) (fun c_18 => ?_) (fun c_18 => ?_)
  · have hw := hwt c_18
    refine j_iconst X dX11_cruise_20 ?_
    exact k_ir X rfl h hw dX11_cruise_21
  · have hw := hwf c_18
    refine lv_iload_n X.1 X.2.1 dX11_cruise_11 rfl (lv_at hl 2 rfl) ?_
    refine j_iconst X dX11_cruise_12 ?_
    refine j_iconst X dX11_cruise_13 ?_
    refine k_i h (r_S (As := [.int (iv x2), .int (iv 0), .int (iv 1)]) (rest := []) X h (c_X11_within l D ct ad L φ N0 σ_1 x2 0 1 _ hw) rfl rfl ⟨Nat.le_of_ble_eq_true rfl, Nat.le_of_ble_eq_true rfl⟩ kw_526 kw_527 kw_120 kw_528 pd_X11_within rfl hl.1 rfl (Nat.le_of_ble_eq_true rfl) ⟨Nat.le_of_ble_eq_true rfl, Nat.le_of_ble_eq_true rfl⟩ dX11_cruise_14) (fun r_5 σ_4 H locs hw h => ?_)
    obtain ⟨g_6, hwt, hwf⟩ := hw
    refine j_if_ne (tgt := 22) X g_6 dX11_cruise_17 (by decide) (fun c_17 => ?_) (fun c_17 => ?_)
    · have hw := hwt c_17
      refine lv_aload_n X.1 X.2.1 dX11_cruise_22 rfl (lv_at hl 0 rfl) ?_
      refine r_getR (ci := 11) X inw_11 h (hF.1 11 rfl).1 rfl rfl 19 (by decide) kw_477 rfl ((hF.1 11 rfl).2 19) dX11_cruise_23 ?_
      refine lv_iload_n X.1 X.2.1 dX11_cruise_26 rfl (lv_at hl 1 rfl) ?_
      refine k_i h (r_V (C := RX2) (ci := 2) (As := [.int (iv x1)]) (rest := []) X h (c_X2_hasNumber l D ct ad L φ N0 σ_4 x1 _ hw) rfl rfl ⟨Nat.le_of_ble_eq_true rfl, Nat.le_of_ble_eq_true rfl⟩ kw_1459 kw_1460 kw_1461 kw_128 kw_1462 ⟨rfl, pd_X2_hasNumber⟩ (hF.1 2 rfl).1 rfl rfl rfl hl.1 rfl (Nat.le_of_ble_eq_true rfl) ⟨Nat.le_of_ble_eq_true rfl, Nat.le_of_ble_eq_true rfl⟩ dX11_cruise_27) (fun r_8 σ_7 H locs hw h => ?_)
      obtain ⟨g_9, hwt, hwf⟩ := hw
      refine j_if_ne (tgt := 35) X g_9 dX11_cruise_30 (by decide) (fun c_16 => ?_) (fun c_16 => ?_)
      · have hw := hwt c_16
        refine lv_iload_n X.1 X.2.1 dX11_cruise_35 rfl (lv_at hl 2 rfl) ?_
        obtain ⟨g_10, hwt, hwf⟩ := hw
        refine j_if_ne (tgt := 50) X g_10 dX11_cruise_36 (by decide) (fun c_15 => ?_) (fun c_15 => ?_)
        · have hw := hwt c_15
          refine lv_aload_n X.1 X.2.1 dX11_cruise_50 rfl (lv_at hl 0 rfl) ?_
          refine r_getR (ci := 11) X inw_11 h (hF.1 11 rfl).1 rfl rfl 19 (by decide) kw_477 rfl ((hF.1 11 rfl).2 19) dX11_cruise_51 ?_
          refine lv_iload_n X.1 X.2.1 dX11_cruise_54 rfl (lv_at hl 1 rfl) ?_
          refine k_i h (r_V (C := RX2) (ci := 2) (As := [.int (iv x1)]) (rest := []) X h (c_X2_spreadOf l D ct ad L φ N0 σ_7 x1 _ hw) rfl rfl ⟨Nat.le_of_ble_eq_true rfl, Nat.le_of_ble_eq_true rfl⟩ kw_1479 kw_1480 kw_1481 kw_128 kw_1482 ⟨rfl, pd_X2_spreadOf⟩ (hF.1 2 rfl).1 rfl rfl rfl hl.1 rfl (Nat.le_of_ble_eq_true rfl) ⟨Nat.le_of_ble_eq_true rfl, Nat.le_of_ble_eq_true rfl⟩ dX11_cruise_55) (fun r_12 σ_11 H locs hw h => ?_)
          exact k_ir X rfl h hw dX11_cruise_58
        · have hw := hwf c_15
          refine lv_aload_n X.1 X.2.1 dX11_cruise_39 rfl (lv_at hl 0 rfl) ?_
          refine r_getR (ci := 11) X inw_11 h (hF.1 11 rfl).1 rfl rfl 19 (by decide) kw_477 rfl ((hF.1 11 rfl).2 19) dX11_cruise_40 ?_
          refine lv_iload_n X.1 X.2.1 dX11_cruise_43 rfl (lv_at hl 1 rfl) ?_
          refine k_i h (r_V (C := RX2) (ci := 2) (As := [.int (iv x1)]) (rest := []) X h (c_X2_sumOf l D ct ad L φ N0 σ_7 x1 _ hw) rfl rfl ⟨Nat.le_of_ble_eq_true rfl, Nat.le_of_ble_eq_true rfl⟩ kw_1467 kw_1468 kw_1469 kw_128 kw_1470 ⟨rfl, pd_X2_sumOf⟩ (hF.1 2 rfl).1 rfl rfl rfl hl.1 rfl (Nat.le_of_ble_eq_true rfl) ⟨Nat.le_of_ble_eq_true rfl, Nat.le_of_ble_eq_true rfl⟩ dX11_cruise_44) (fun r_14 σ_13 H locs hw h => ?_)
          refine lv_goto (tgt := 58) X.1 X.2.1 dX11_cruise_47 (by decide) ?_
          exact k_ir X rfl h hw dX11_cruise_58
      · have hw := hwf c_16
        refine j_iconst X dX11_cruise_33 ?_
        exact k_ir X rfl h hw dX11_cruise_34
    · have hw := hwf c_17
      refine j_iconst X dX11_cruise_20 ?_
      exact k_ir X rfl h hw dX11_cruise_21
end
section
variable {p : Program} {l : Launch} {e : Env} {s : State} {m : MethodId} {args : Array Value} {below : List Frame} {meth : Method} {c : Code} {D : va_G} {ct : Nat → ClassId} {ad : Nat → Nat → Nat} {L : List (Nat × Nat)} {φ : Nat → Nat → Nat → Bool} {N0 : Nat}
variable {Q : Int → St → Prop}
theorem pd_X11_knew : yX11_knew.cls ≠ "java/lang/invoke/MethodHandle" ∧ yX11_knew.cls ≠ "java/lang/invoke/VarHandle" ∧ (parseMethodDescriptor yX11_knew.desc).map (fun d => d.parameters.length) = some 3 := by decide +kernel
set_option maxRecDepth 100000 in
set_option maxHeartbeats 4000000 in
theorem c_X11_knew (l : Launch) (D : va_G) (ct : Nat → ClassId) (ad : Nat → Nat → Nat) (L : List (Nat × Nat)) (φ : Nat → Nat → Nat → Bool) (N0 : Nat) (σ : St) (x1 : Int) (x2 : Int) (x3 : Int) (Q : Int → St → Prop) (hw : wp_X11_knew σ x1 x2 x3 Q) : Met l yX11_knew (.code yX11_knew cX11_knew 5 (some .int) :: gw) ({ frames := 2, cells := 0, slots := 0, locals := 43 } : Room) (Pm D ct ad L φ N0 σ [.ref (ad 11 0), .int (iv x1), .int (iv x2), .int (iv x3)]) (Qi D ct ad L φ N0 Q) 0 0 (AA N0) := by
  refine m_of (by decide) (fun p e s m below meth c X hnm h => ?_)
  have hF := X.2.2.2.2.2.2.2.2.1
  have hl := lv_entry ([.ref (ad 11 0), .int (iv x1), .int (iv x2), .int (iv x3)]) (n := 5) (Nat.le_of_ble_eq_true rfl)
  rw [lg_entry_eq]
  generalize (lg_sl ([.ref (ad 11 0), .int (iv x1), .int (iv x2), .int (iv x3)]) ++ List.replicate (5 - (lg_sl ([.ref (ad 11 0), .int (iv x1), .int (iv x2), .int (iv x3)])).length) Slot.unset).toArray = ls at hl ⊢
  have hl : lv_has ls 5 [(0, .ref (ad 11 0)), (1, .int (iv x1)), (2, .int (iv x2)), (3, .int (iv x3))] := hl
  have h : Hs D ct ad L φ N0 s.heap σ s.heap [] := h
  unfold wp_X11_knew at hw
  refine lv_aload_n X.1 X.2.1 dX11_knew_0 rfl (lv_at hl 0 rfl) ?_
  refine lv_iload_n X.1 X.2.1 dX11_knew_1 rfl (lv_at hl 1 rfl) ?_
  refine k_o h (r_V (C := RX11) (ci := 11) (As := [.int (iv x1)]) (rest := []) X h (c_X11_logAt l D ct ad L φ N0 σ x1 _ hw) rfl rfl ⟨Nat.le_of_ble_eq_true rfl, Nat.le_of_ble_eq_true rfl⟩ kw_794 kw_796 kw_12 kw_120 kw_797 ⟨rfl, pd_X11_logAt⟩ (hF.1 11 rfl).1 rfl rfl rfl hl.1 rfl (Nat.le_of_ble_eq_true rfl) ⟨Nat.le_of_ble_eq_true rfl, Nat.le_of_ble_eq_true rfl⟩ dX11_knew_2) (fun o_14 σ_1 H locs hw h => ?_)
  cases o_14 with
  | none =>
    refine lv_astoreN (lv' := [(4, .null), (0, .ref (ad 11 0)), (1, .int (iv x1)), (2, .int (iv x2)), (3, .int (iv x3))]) X.1 X.2.1 dX11_knew_5 hl (by decide) rfl (fun ls hl => ?_)
    refine lv_aloadN X.1 X.2.1 dX11_knew_7 (lv_at hl 0 rfl) ?_
    refine lv_ifnullN (tgt := 36) X.1 X.2.1 dX11_knew_9 (by decide) ?_
    refine j_bipush X dX11_knew_36 (by decide) ?_
    exact k_ir X rfl h hw dX11_knew_38
  | some j_2 =>
    refine lv_astore (lv' := [(4, .ref (ad 4 j_2)), (0, .ref (ad 11 0)), (1, .int (iv x1)), (2, .int (iv x2)), (3, .int (iv x3))]) X.1 X.2.1 dX11_knew_5 hl (by decide) rfl (fun ls hl => ?_)
    refine lv_aload X.1 X.2.1 dX11_knew_7 (lv_at hl 0 rfl) ?_
    refine lv_ifnull X.1 X.2.1 dX11_knew_9 ?_
    refine lv_iload_n X.1 X.2.1 dX11_knew_12 rfl (lv_at hl 4 rfl) ?_
    refine j_iconst X dX11_knew_13 ?_
    refine lv_aload_n X.1 X.2.1 dX11_knew_14 rfl (lv_at hl 1 rfl) ?_
    refine r_getR (ci := 11) X inw_11 h (hF.1 11 rfl).1 rfl rfl 0 (by decide) kw_458 rfl ((hF.1 11 rfl).2 0) dX11_knew_15 ?_
    refine r_getN (ci := 7) X inw_7 h (hF.1 7 rfl).1 rfl rfl 3 (by decide) kw_164 rfl dX11_knew_18 ?_
    refine k_i h (r_S (As := [.int (iv x3), .int (iv 0), .int (iv (σ_1 7 0 3))]) (rest := []) X h (c_X11_within l D ct ad L φ N0 σ_1 x3 0 (σ_1 7 0 3) _ hw) rfl rfl ⟨Nat.le_of_ble_eq_true rfl, Nat.le_of_ble_eq_true rfl⟩ kw_526 kw_527 kw_120 kw_528 pd_X11_within rfl hl.1 rfl (Nat.le_of_ble_eq_true rfl) ⟨Nat.le_of_ble_eq_true rfl, Nat.le_of_ble_eq_true rfl⟩ dX11_knew_21) (fun r_4 σ_3 H locs hw h => ?_)
    obtain ⟨g_5, hwt, hwf⟩ := hw
    refine j_if_eq (tgt := 36) X g_5 dX11_knew_24 (by decide) (fun c_13 => ?_) (fun c_13 => ?_)
    · have hw := hwt c_13
      refine j_bipush X dX11_knew_36 (by decide) ?_
      exact k_ir X rfl h hw dX11_knew_38
    · have hw := hwf c_13
      refine lv_iload_n X.1 X.2.1 dX11_knew_27 rfl (lv_at hl 3 rfl) ?_
      refine j_iconst X dX11_knew_28 ?_
      refine lv_iload_n X.1 X.2.1 dX11_knew_29 rfl (lv_at hl 4 rfl) ?_
      refine k_i h (r_S (As := [.int (iv x2), .int (iv 0), .int (iv x3)]) (rest := []) X h (c_X11_within l D ct ad L φ N0 σ_3 x2 0 x3 _ hw) rfl rfl ⟨Nat.le_of_ble_eq_true rfl, Nat.le_of_ble_eq_true rfl⟩ kw_526 kw_527 kw_120 kw_528 pd_X11_within rfl hl.1 rfl (Nat.le_of_ble_eq_true rfl) ⟨Nat.le_of_ble_eq_true rfl, Nat.le_of_ble_eq_true rfl⟩ dX11_knew_30) (fun r_7 σ_6 H locs hw h => ?_)
      obtain ⟨g_8, hwt, hwf⟩ := hw
      refine j_if_ne (tgt := 39) X g_8 dX11_knew_33 (by decide) (fun c_12 => ?_) (fun c_12 => ?_)
      · have hw := hwt c_12
        refine lv_aload X.1 X.2.1 dX11_knew_39 (lv_at hl 0 rfl) ?_
        refine lv_iload_n X.1 X.2.1 dX11_knew_41 rfl (lv_at hl 3 rfl) ?_
        refine lv_iload_n X.1 X.2.1 dX11_knew_42 rfl (lv_at hl 4 rfl) ?_
        obtain ⟨g_9, hw⟩ := hw
        refine k_i h (r_V (C := RX4) (ci := 4) (As := [.int (iv x2), .int (iv x3)]) (rest := []) X h (c_X4_knownAs l D ct ad L φ N0 σ_6 j_2 x2 x3 _ hw) rfl rfl ⟨Nat.le_of_ble_eq_true rfl, Nat.le_of_ble_eq_true rfl⟩ kw_1489 kw_1490 kw_1491 kw_131 kw_1492 ⟨rfl, pd_X4_knownAs⟩ (h.2.2.1 j_2 g_9).1 rfl rfl rfl hl.1 rfl (Nat.le_of_ble_eq_true rfl) ⟨Nat.le_of_ble_eq_true rfl, Nat.le_of_ble_eq_true rfl⟩ dX11_knew_43) (fun r_11 σ_10 H locs hw h => ?_)
        exact k_ir X rfl h hw dX11_knew_46
      · have hw := hwf c_12
        refine j_bipush X dX11_knew_36 (by decide) ?_
        exact k_ir X rfl h hw dX11_knew_38
end
section
variable {p : Program} {l : Launch} {e : Env} {s : State} {m : MethodId} {args : Array Value} {below : List Frame} {meth : Method} {c : Code} {D : va_G} {ct : Nat → ClassId} {ad : Nat → Nat → Nat} {L : List (Nat × Nat)} {φ : Nat → Nat → Nat → Bool} {N0 : Nat}
variable {Q : Int → St → Prop}
theorem pd_X11_alter : yX11_alter.cls ≠ "java/lang/invoke/MethodHandle" ∧ yX11_alter.cls ≠ "java/lang/invoke/VarHandle" ∧ (parseMethodDescriptor yX11_alter.desc).map (fun d => d.parameters.length) = some 3 := by decide +kernel
set_option maxRecDepth 100000 in
set_option maxHeartbeats 4000000 in
theorem c_X11_alter (l : Launch) (D : va_G) (ct : Nat → ClassId) (ad : Nat → Nat → Nat) (L : List (Nat × Nat)) (φ : Nat → Nat → Nat → Bool) (N0 : Nat) (σ : St) (x1 : Int) (x2 : Int) (x3 : Int) (Q : Int → St → Prop) (hw : wp_X11_alter σ x1 x2 x3 Q) : Met l yX11_alter (.code yX11_alter cX11_alter 5 (some .boolean) :: gw) ({ frames := 2, cells := 0, slots := 0, locals := 43 } : Room) (Pm D ct ad L φ N0 σ [.ref (ad 11 0), .int (iv x1), .int (iv x2), .int (iv x3)]) (Qi D ct ad L φ N0 Q) 0 0 (AA N0) := by
  refine m_of (by decide) (fun p e s m below meth c X hnm h => ?_)
  have hF := X.2.2.2.2.2.2.2.2.1
  have hl := lv_entry ([.ref (ad 11 0), .int (iv x1), .int (iv x2), .int (iv x3)]) (n := 5) (Nat.le_of_ble_eq_true rfl)
  rw [lg_entry_eq]
  generalize (lg_sl ([.ref (ad 11 0), .int (iv x1), .int (iv x2), .int (iv x3)]) ++ List.replicate (5 - (lg_sl ([.ref (ad 11 0), .int (iv x1), .int (iv x2), .int (iv x3)])).length) Slot.unset).toArray = ls at hl ⊢
  have hl : lv_has ls 5 [(0, .ref (ad 11 0)), (1, .int (iv x1)), (2, .int (iv x2)), (3, .int (iv x3))] := hl
  have h : Hs D ct ad L φ N0 s.heap σ s.heap [] := h
  unfold wp_X11_alter at hw
  refine lv_aload_n X.1 X.2.1 dX11_alter_0 rfl (lv_at hl 0 rfl) ?_
  refine lv_iload_n X.1 X.2.1 dX11_alter_1 rfl (lv_at hl 1 rfl) ?_
  refine k_o h (r_V (C := RX11) (ci := 11) (As := [.int (iv x1)]) (rest := []) X h (c_X11_logAt l D ct ad L φ N0 σ x1 _ hw) rfl rfl ⟨Nat.le_of_ble_eq_true rfl, Nat.le_of_ble_eq_true rfl⟩ kw_794 kw_796 kw_12 kw_120 kw_797 ⟨rfl, pd_X11_logAt⟩ (hF.1 11 rfl).1 rfl rfl rfl hl.1 rfl (Nat.le_of_ble_eq_true rfl) ⟨Nat.le_of_ble_eq_true rfl, Nat.le_of_ble_eq_true rfl⟩ dX11_alter_2) (fun o_19 σ_1 H locs hw h => ?_)
  cases o_19 with
  | none =>
    refine lv_astoreN (lv' := [(4, .null), (0, .ref (ad 11 0)), (1, .int (iv x1)), (2, .int (iv x2)), (3, .int (iv x3))]) X.1 X.2.1 dX11_alter_5 hl (by decide) rfl (fun ls hl => ?_)
    refine lv_aloadN X.1 X.2.1 dX11_alter_7 (lv_at hl 0 rfl) ?_
    refine lv_ifnullN (tgt := 32) X.1 X.2.1 dX11_alter_9 (by decide) ?_
    refine j_iconst X dX11_alter_32 ?_
    exact k_ir X rfl h hw dX11_alter_33
  | some j_2 =>
    refine lv_astore (lv' := [(4, .ref (ad 4 j_2)), (0, .ref (ad 11 0)), (1, .int (iv x1)), (2, .int (iv x2)), (3, .int (iv x3))]) X.1 X.2.1 dX11_alter_5 hl (by decide) rfl (fun ls hl => ?_)
    refine lv_aload X.1 X.2.1 dX11_alter_7 (lv_at hl 0 rfl) ?_
    refine lv_ifnull X.1 X.2.1 dX11_alter_9 ?_
    refine lv_iload_n X.1 X.2.1 dX11_alter_12 rfl (lv_at hl 3 rfl) ?_
    refine j_iconst X dX11_alter_13 ?_
    refine j_iconst X dX11_alter_14 ?_
    refine k_i h (r_S (As := [.int (iv x2), .int (iv 0), .int (iv 4)]) (rest := []) X h (c_X11_within l D ct ad L φ N0 σ_1 x2 0 4 _ hw) rfl rfl ⟨Nat.le_of_ble_eq_true rfl, Nat.le_of_ble_eq_true rfl⟩ kw_526 kw_527 kw_120 kw_528 pd_X11_within rfl hl.1 rfl (Nat.le_of_ble_eq_true rfl) ⟨Nat.le_of_ble_eq_true rfl, Nat.le_of_ble_eq_true rfl⟩ dX11_alter_15) (fun r_4 σ_3 H locs hw h => ?_)
    obtain ⟨g_5, hwt, hwf⟩ := hw
    refine j_if_eq (tgt := 32) X g_5 dX11_alter_18 (by decide) (fun c_18 => ?_) (fun c_18 => ?_)
    · have hw := hwt c_18
      refine j_iconst X dX11_alter_32 ?_
      exact k_ir X rfl h hw dX11_alter_33
    · have hw := hwf c_18
      refine lv_iload_n X.1 X.2.1 dX11_alter_21 rfl (lv_at hl 4 rfl) ?_
      refine j_iconst X dX11_alter_22 ?_
      refine j_ldc_w (n := 65535) X kw_1497 (by decide) dX11_alter_23 ?_
      refine k_i h (r_S (As := [.int (iv x3), .int (iv 1), .int (iv 65535)]) (rest := []) X h (c_X11_within l D ct ad L φ N0 σ_3 x3 1 65535 _ hw) rfl rfl ⟨Nat.le_of_ble_eq_true rfl, Nat.le_of_ble_eq_true rfl⟩ kw_526 kw_527 kw_120 kw_528 pd_X11_within rfl hl.1 rfl (Nat.le_of_ble_eq_true rfl) ⟨Nat.le_of_ble_eq_true rfl, Nat.le_of_ble_eq_true rfl⟩ dX11_alter_26) (fun r_7 σ_6 H locs hw h => ?_)
      obtain ⟨g_8, hwt, hwf⟩ := hw
      refine j_if_ne (tgt := 34) X g_8 dX11_alter_29 (by decide) (fun c_17 => ?_) (fun c_17 => ?_)
      · have hw := hwt c_17
        refine lv_aload X.1 X.2.1 dX11_alter_34 (lv_at hl 0 rfl) ?_
        obtain ⟨g_9, hw⟩ := hw
        refine r_getRN (ci := 4) X inw_4 h (h.2.2.1 j_2 g_9).1 rfl rfl 13 (by decide) kw_727 rfl ((h.2.2.1 j_2 g_9).2.2.2.2.2 13) dX11_alter_36 ?_
        refine lv_iload_n X.1 X.2.1 dX11_alter_39 rfl (lv_at hl 3 rfl) ?_
        refine lv_dup2_11 X.1 X.2.1 dX11_alter_40 rfl rfl ?_
        obtain ⟨g_10, g_11, g_12, hw⟩ := hw
        refine r_iald (n := 5) X h (h.2.2.1 j_2 g_10).2.2.2.2.1 rfl (by decide) g_11 g_12 dX11_alter_41 ?_
        refine lv_iload_n X.1 X.2.1 dX11_alter_42 rfl (lv_at hl 4 rfl) ?_
        refine j_ixor X dX11_alter_43 ?_
        obtain ⟨g_13, g_14, g_15, hw⟩ := hw
        refine r_iast (n := 5) X h (h.2.2.1 j_2 g_13).2.2.2.2.1 (fun _ => rfl) (by decide) g_14 g_15 rfl dX11_alter_44 (fun H locs h => ?_)
        obtain ⟨σ_16, eσ_16⟩ : ∃ z : St, z = st σ_6 38 j_2 (Int.toNat x2) (i_ixor (σ_6 38 j_2 (Int.toNat x2)) x3) := ⟨_, rfl⟩
        rw [← eσ_16] at h
        have hw := hw σ_16 eσ_16
        refine j_iconst X dX11_alter_45 ?_
        exact k_ir X rfl h hw dX11_alter_46
      · have hw := hwf c_17
        refine j_iconst X dX11_alter_32 ?_
        exact k_ir X rfl h hw dX11_alter_33
end
section
variable {p : Program} {l : Launch} {e : Env} {s : State} {m : MethodId} {args : Array Value} {below : List Frame} {meth : Method} {c : Code} {D : va_G} {ct : Nat → ClassId} {ad : Nat → Nat → Nat} {L : List (Nat × Nat)} {φ : Nat → Nat → Nat → Bool} {N0 : Nat}
variable {Q : Int → St → Prop}
theorem pd_X11_checked : yX11_checked.cls ≠ "java/lang/invoke/MethodHandle" ∧ yX11_checked.cls ≠ "java/lang/invoke/VarHandle" ∧ (parseMethodDescriptor yX11_checked.desc).map (fun d => d.parameters.length) = some 2 := by decide +kernel
set_option maxRecDepth 100000 in
set_option maxHeartbeats 4000000 in
theorem c_X11_checked (l : Launch) (D : va_G) (ct : Nat → ClassId) (ad : Nat → Nat → Nat) (L : List (Nat × Nat)) (φ : Nat → Nat → Nat → Bool) (N0 : Nat) (σ : St) (x1 : Int) (x2 : Int) (Q : Int → St → Prop) (hw : wp_X11_checked σ x1 x2 Q) : Met l yX11_checked (.code yX11_checked cX11_checked 5 (some .int) :: gw) ({ frames := 4, cells := 0, slots := 0, locals := 87 } : Room) (Pm D ct ad L φ N0 σ [.ref (ad 11 0), .int (iv x1), .int (iv x2)]) (Qi D ct ad L φ N0 Q) 0 0 (AA N0) := by
  refine m_of (by decide) (fun p e s m below meth c X hnm h => ?_)
  have hF := X.2.2.2.2.2.2.2.2.1
  have hl := lv_entry ([.ref (ad 11 0), .int (iv x1), .int (iv x2)]) (n := 5) (Nat.le_of_ble_eq_true rfl)
  rw [lg_entry_eq]
  generalize (lg_sl ([.ref (ad 11 0), .int (iv x1), .int (iv x2)]) ++ List.replicate (5 - (lg_sl ([.ref (ad 11 0), .int (iv x1), .int (iv x2)])).length) Slot.unset).toArray = ls at hl ⊢
  have hl : lv_has ls 5 [(0, .ref (ad 11 0)), (1, .int (iv x1)), (2, .int (iv x2))] := hl
  have h : Hs D ct ad L φ N0 s.heap σ s.heap [] := h
  unfold wp_X11_checked at hw
  refine lv_aload_n X.1 X.2.1 dX11_checked_0 rfl (lv_at hl 0 rfl) ?_
  refine lv_iload_n X.1 X.2.1 dX11_checked_1 rfl (lv_at hl 1 rfl) ?_
  refine k_o h (r_V (C := RX11) (ci := 11) (As := [.int (iv x1)]) (rest := []) X h (c_X11_logAt l D ct ad L φ N0 σ x1 _ hw) rfl rfl ⟨Nat.le_of_ble_eq_true rfl, Nat.le_of_ble_eq_true rfl⟩ kw_794 kw_796 kw_12 kw_120 kw_797 ⟨rfl, pd_X11_logAt⟩ (hF.1 11 rfl).1 rfl rfl rfl hl.1 rfl (Nat.le_of_ble_eq_true rfl) ⟨Nat.le_of_ble_eq_true rfl, Nat.le_of_ble_eq_true rfl⟩ dX11_checked_2) (fun o_17 σ_1 H locs hw h => ?_)
  cases o_17 with
  | none =>
    refine lv_astore_nN (lv' := [(3, .null), (0, .ref (ad 11 0)), (1, .int (iv x1)), (2, .int (iv x2))]) X.1 X.2.1 dX11_checked_5 rfl hl (by decide) rfl (fun ls hl => ?_)
    refine lv_aload_nN X.1 X.2.1 dX11_checked_6 rfl (lv_at hl 0 rfl) ?_
    refine lv_ifnullN (tgt := 19) X.1 X.2.1 dX11_checked_7 (by decide) ?_
    refine j_bipush X dX11_checked_19 (by decide) ?_
    exact k_ir X rfl h hw dX11_checked_21
  | some j_2 =>
    refine lv_astore_n (lv' := [(3, .ref (ad 4 j_2)), (0, .ref (ad 11 0)), (1, .int (iv x1)), (2, .int (iv x2))]) X.1 X.2.1 dX11_checked_5 rfl hl (by decide) rfl (fun ls hl => ?_)
    refine lv_aload_n X.1 X.2.1 dX11_checked_6 rfl (lv_at hl 0 rfl) ?_
    refine lv_ifnull X.1 X.2.1 dX11_checked_7 ?_
    refine lv_iload_n X.1 X.2.1 dX11_checked_10 rfl (lv_at hl 3 rfl) ?_
    refine j_iconst X dX11_checked_11 ?_
    refine j_iconst X dX11_checked_12 ?_
    refine k_i h (r_S (As := [.int (iv x2), .int (iv 0), .int (iv 1)]) (rest := []) X h (c_X11_within l D ct ad L φ N0 σ_1 x2 0 1 _ hw) rfl rfl ⟨Nat.le_of_ble_eq_true rfl, Nat.le_of_ble_eq_true rfl⟩ kw_526 kw_527 kw_120 kw_528 pd_X11_within rfl hl.1 rfl (Nat.le_of_ble_eq_true rfl) ⟨Nat.le_of_ble_eq_true rfl, Nat.le_of_ble_eq_true rfl⟩ dX11_checked_13) (fun r_4 σ_3 H locs hw h => ?_)
    obtain ⟨g_5, hwt, hwf⟩ := hw
    refine j_if_ne (tgt := 22) X g_5 dX11_checked_16 (by decide) (fun c_16 => ?_) (fun c_16 => ?_)
    · have hw := hwt c_16
      refine lv_aload_n X.1 X.2.1 dX11_checked_22 rfl (lv_at hl 0 rfl) ?_
      obtain ⟨g_6, hw⟩ := hw
      refine k_i h (r_V (C := RX4) (ci := 4) (As := []) (rest := []) X h (c_X4_faultyPlace l D ct ad L φ N0 σ_3 j_2 _ hw) rfl rfl ⟨Nat.le_of_ble_eq_true rfl, Nat.le_of_ble_eq_true rfl⟩ kw_1502 kw_1503 kw_1504 kw_131 kw_1505 ⟨rfl, pd_X4_faultyPlace⟩ (h.2.2.1 j_2 g_6).1 rfl rfl rfl hl.1 rfl (Nat.le_of_ble_eq_true rfl) ⟨Nat.le_of_ble_eq_true rfl, Nat.le_of_ble_eq_true rfl⟩ dX11_checked_23) (fun r_8 σ_7 H locs hw h => ?_)
      refine lv_istore (lv' := [(4, .int (iv r_8)), (3, .ref (ad 4 j_2)), (0, .ref (ad 11 0)), (1, .int (iv x1)), (2, .int (iv x2))]) X.1 X.2.1 dX11_checked_26 hl (by decide) rfl (fun ls hl => ?_)
      refine lv_iload_n X.1 X.2.1 dX11_checked_28 rfl (lv_at hl 4 rfl) ?_
      obtain ⟨g_9, hwt, hwf⟩ := hw
      refine j_if_ne (tgt := 35) X g_9 dX11_checked_29 (by decide) (fun c_15 => ?_) (fun c_15 => ?_)
      · have hw := hwt c_15
        refine lv_iload X.1 X.2.1 dX11_checked_35 (lv_at hl 0 rfl) ?_
        obtain ⟨g_10, hwt, hwf⟩ := hw
        refine j_if_ge (tgt := 45) X g_10 dX11_checked_37 (by decide) (fun c_14 => ?_) (fun c_14 => ?_)
        · have hw := hwt c_14
          refine lv_aload_n X.1 X.2.1 dX11_checked_45 rfl (lv_at hl 1 rfl) ?_
          refine lv_iload X.1 X.2.1 dX11_checked_46 (lv_at hl 0 rfl) ?_
          obtain ⟨g_11, hw⟩ := hw
          refine k_i h (r_V (C := RX4) (ci := 4) (As := [.int (iv r_8)]) (rest := []) X h (c_X4_rightNumber l D ct ad L φ N0 σ_7 j_2 r_8 _ hw) rfl rfl ⟨Nat.le_of_ble_eq_true rfl, Nat.le_of_ble_eq_true rfl⟩ kw_1518 kw_1514 kw_1515 kw_131 kw_1516 ⟨rfl, pd_X4_rightNumber⟩ (h.2.2.1 j_2 g_11).1 rfl rfl rfl hl.1 rfl (Nat.le_of_ble_eq_true rfl) ⟨Nat.le_of_ble_eq_true rfl, Nat.le_of_ble_eq_true rfl⟩ dX11_checked_48) (fun r_13 σ_12 H locs hw h => ?_)
          exact k_ir X rfl h hw dX11_checked_51
        · have hw := hwf c_14
          refine j_bipush X dX11_checked_40 (by decide) ?_
          refine lv_goto (tgt := 51) X.1 X.2.1 dX11_checked_42 (by decide) ?_
          exact k_ir X rfl h hw dX11_checked_51
      · have hw := hwf c_15
        refine lv_iload X.1 X.2.1 dX11_checked_32 (lv_at hl 0 rfl) ?_
        exact k_ir X rfl h hw dX11_checked_34
    · have hw := hwf c_16
      refine j_bipush X dX11_checked_19 (by decide) ?_
      exact k_ir X rfl h hw dX11_checked_21
end
section
variable {p : Program} {l : Launch} {e : Env} {s : State} {m : MethodId} {args : Array Value} {below : List Frame} {meth : Method} {c : Code} {D : va_G} {ct : Nat → ClassId} {ad : Nat → Nat → Nat} {L : List (Nat × Nat)} {φ : Nat → Nat → Nat → Bool} {N0 : Nat}
variable {Q : Int → St → Prop}
set_option maxRecDepth 100000 in
set_option maxHeartbeats 4000000 in
theorem lb_X11_wagesPaid_32 (X : Cx p s m meth c args cX11_wagesPaid 4 (some .int) RX11 D ct L φ N0) {K4 : St → Int → Int → Prop} (hK4 : ∀ (σ : St) (x1 : Int) (x2 : Int) (H : Heap) (locs : List Loc) (ls : Array Slot), K4 σ x1 x2 → Hs D ct ad L φ N0 s.heap σ H locs → lv_has ls 4 [(0, .ref (ad 11 0)), (1, .int (iv x1)), (2, .int (iv x2))] → W p l e ({ frames := 0, cells := 0, slots := 0, locals := 0 } : Room) s m args below meth c H locs 0 0 (MQ below (Qi D ct ad L φ N0 Q) args s 0 0 (AA N0)) (F0 m 4 ls [])) (σ : St) (x2 : Int) (y0 : Int) (y1 : Int) (H : Heap) (locs : List Loc) (ls : Array Slot) (hw : wp_X11_wagesPaid_32 K4 Q σ x2 y0 y1) (h : Hs D ct ad L φ N0 s.heap σ H locs) (hl : lv_has ls 4 [(0, .ref (ad 11 0)), (2, .int (iv x2))]) : W p l e ({ frames := 0, cells := 0, slots := 0, locals := 0 } : Room) s m args below meth c H locs 0 0 (MQ below (Qi D ct ad L φ N0 Q) args s 0 0 (AA N0)) (F0 m 32 ls [.int (iv y0), .int (iv y1)]) := by
  have hF := X.2.2.2.2.2.2.2.2.1
  unfold wp_X11_wagesPaid_32 at hw
  refine j_iadd X dX11_wagesPaid_32 ?_
  refine j_bind (fun v_1 ev_1 => ?_)
  have hw := hw v_1 ev_1
  refine lv_istore_n (lv' := [(1, .int (iv v_1)), (0, .ref (ad 11 0)), (2, .int (iv x2))]) X.1 X.2.1 dX11_wagesPaid_33 rfl hl (by decide) rfl (fun ls hl => ?_)
  refine j_iinc (kk9 := 2) (lv' := [(2, .int (iv (x2 + 1))), (1, .int (iv v_1)), (0, .ref (ad 11 0))]) X dX11_wagesPaid_34 hl rfl (by decide) rfl (fun ls hl => ?_)
  refine lv_goto (tgt := 4) X.1 X.2.1 dX11_wagesPaid_37 (by decide) ?_
  exact hK4 σ v_1 (x2 + 1) _ _ _ hw h (lv_sub hl [2, 1, 0] rfl)
set_option maxRecDepth 100000 in
set_option maxHeartbeats 4000000 in
theorem lb_X11_wagesPaid_4 (X : Cx p s m meth c args cX11_wagesPaid 4 (some .int) RX11 D ct L φ N0) : ∀ (n : Nat) (σ : St) (x1 : Int) (x2 : Int) (H : Heap) (locs : List Loc) (ls : Array Slot), wp_X11_wagesPaid_4 Q n σ x1 x2 → Hs D ct ad L φ N0 s.heap σ H locs → lv_has ls 4 [(0, .ref (ad 11 0)), (1, .int (iv x1)), (2, .int (iv x2))] → W p l e ({ frames := 0, cells := 0, slots := 0, locals := 0 } : Room) s m args below meth c H locs 0 0 (MQ below (Qi D ct ad L φ N0 Q) args s 0 0 (AA N0)) (F0 m 4 ls []) := by
  have hF := X.2.2.2.2.2.2.2.2.1
  intro n
  induction n with
  | zero => intro σ x1 x2 H locs ls hw; exact hw.elim
  | succ n ih =>
    intro σ x1 x2 H locs ls hw h hl
    unfold wp_X11_wagesPaid_4 at hw
    refine lv_iload_n X.1 X.2.1 dX11_wagesPaid_4 rfl (lv_at hl 2 rfl) ?_
    refine lv_aload_n X.1 X.2.1 dX11_wagesPaid_5 rfl (lv_at hl 0 rfl) ?_
    refine r_get (ci := 11) X inw_11 h (hF.1 11 rfl).1 rfl rfl 11 (by decide) kw_469 rfl dX11_wagesPaid_6 ?_
    obtain ⟨g_2, g_3, hwt, hwf⟩ := hw
    refine j_cmp_ge (tgt := 40) X g_2 g_3 dX11_wagesPaid_9 (by decide) (fun c_9 => ?_) (fun c_9 => ?_)
    · have hw := hwt c_9
      refine lv_iload_n X.1 X.2.1 dX11_wagesPaid_40 rfl (lv_at hl 1 rfl) ?_
      exact k_ir X rfl h hw dX11_wagesPaid_41
    · have hw := hwf c_9
      refine lv_aload_n X.1 X.2.1 dX11_wagesPaid_12 rfl (lv_at hl 0 rfl) ?_
      refine r_getR (ci := 11) X inw_11 h (hF.1 11 rfl).1 rfl rfl 10 (by decide) kw_468 rfl ((hF.1 11 rfl).2 10) dX11_wagesPaid_13 ?_
      refine lv_iload_n X.1 X.2.1 dX11_wagesPaid_16 rfl (lv_at hl 2 rfl) ?_
      obtain ⟨g_4, g_5, hwt, hwf⟩ := hw
      refine r_aaD (n := 20) (t := 5) X h (hF.1 79 rfl).1 rfl rfl (by decide) g_4 g_5 dX11_wagesPaid_17 (fun c_7 => ?_) (fun c_7 => ?_)
      · have hw := hwt c_7
        refine lv_astore_nN (lv' := [(3, .null), (0, .ref (ad 11 0)), (1, .int (iv x1)), (2, .int (iv x2))]) X.1 X.2.1 dX11_wagesPaid_18 rfl hl (by decide) rfl (fun ls hl => ?_)
        refine lv_iload_n X.1 X.2.1 dX11_wagesPaid_19 rfl (lv_at hl 2 rfl) ?_
        refine lv_aload_nN X.1 X.2.1 dX11_wagesPaid_20 rfl (lv_at hl 0 rfl) ?_
        refine lv_ifnonnullN X.1 X.2.1 dX11_wagesPaid_21 ?_
        refine j_iconst X dX11_wagesPaid_24 ?_
        refine lv_goto (tgt := 32) X.1 X.2.1 dX11_wagesPaid_25 (by decide) ?_
        exact lb_X11_wagesPaid_32 X ih σ x2 0 x1 _ _ _ hw h (lv_sub hl [1, 3] rfl)
      · have hw := hwf c_7 (h.2.2.2.2.2.2.2.1 _ c_7)
        refine lv_astore_n (lv' := [(3, .ref (ad 1 (Int.toNat x2))), (0, .ref (ad 11 0)), (1, .int (iv x1)), (2, .int (iv x2))]) X.1 X.2.1 dX11_wagesPaid_18 rfl hl (by decide) rfl (fun ls hl => ?_)
        refine lv_iload_n X.1 X.2.1 dX11_wagesPaid_19 rfl (lv_at hl 2 rfl) ?_
        refine lv_aload_n X.1 X.2.1 dX11_wagesPaid_20 rfl (lv_at hl 0 rfl) ?_
        refine lv_ifnonnull (tgt := 28) X.1 X.2.1 dX11_wagesPaid_21 (by decide) ?_
        refine lv_aload_n X.1 X.2.1 dX11_wagesPaid_28 rfl (lv_at hl 0 rfl) ?_
        obtain ⟨g_6, hw⟩ := hw
        refine r_getN (ci := 1) X inw_1 h (h.2.2.2.2.1 (Int.toNat x2) g_6) rfl rfl 3 (by decide) kw_1195 rfl dX11_wagesPaid_29 ?_
        exact lb_X11_wagesPaid_32 X ih σ x2 (σ 1 (Int.toNat x2) 3) x1 _ _ _ hw h (lv_sub hl [1, 3] rfl)
theorem pd_X11_wagesPaid : yX11_wagesPaid.cls ≠ "java/lang/invoke/MethodHandle" ∧ yX11_wagesPaid.cls ≠ "java/lang/invoke/VarHandle" ∧ (parseMethodDescriptor yX11_wagesPaid.desc).map (fun d => d.parameters.length) = some 0 := by decide +kernel
set_option maxRecDepth 100000 in
set_option maxHeartbeats 4000000 in
theorem c_X11_wagesPaid (l : Launch) (D : va_G) (ct : Nat → ClassId) (ad : Nat → Nat → Nat) (L : List (Nat × Nat)) (φ : Nat → Nat → Nat → Bool) (N0 : Nat) (σ : St) (Q : Int → St → Prop) (hw : wp_X11_wagesPaid σ Q) : Met l yX11_wagesPaid (.code yX11_wagesPaid cX11_wagesPaid 4 (some .int) :: gw) ({ frames := 0, cells := 0, slots := 0, locals := 0 } : Room) (Pm D ct ad L φ N0 σ [.ref (ad 11 0)]) (Qi D ct ad L φ N0 Q) 0 0 (AA N0) := by
  refine m_of (by decide) (fun p e s m below meth c X hnm h => ?_)
  have hF := X.2.2.2.2.2.2.2.2.1
  have hl := lv_entry ([.ref (ad 11 0)]) (n := 4) (Nat.le_of_ble_eq_true rfl)
  rw [lg_entry_eq]
  generalize (lg_sl ([.ref (ad 11 0)]) ++ List.replicate (4 - (lg_sl ([.ref (ad 11 0)])).length) Slot.unset).toArray = ls at hl ⊢
  have hl : lv_has ls 4 [(0, .ref (ad 11 0))] := hl
  have h : Hs D ct ad L φ N0 s.heap σ s.heap [] := h
  unfold wp_X11_wagesPaid at hw
  refine j_iconst X dX11_wagesPaid_0 ?_
  refine lv_istore_n (lv' := [(1, .int (iv 0)), (0, .ref (ad 11 0))]) X.1 X.2.1 dX11_wagesPaid_1 rfl hl (by decide) rfl (fun ls hl => ?_)
  refine j_iconst X dX11_wagesPaid_2 ?_
  refine lv_istore_n (lv' := [(2, .int (iv 0)), (1, .int (iv 0)), (0, .ref (ad 11 0))]) X.1 X.2.1 dX11_wagesPaid_3 rfl hl (by decide) rfl (fun ls hl => ?_)
  exact hw.elim (fun n4 hw => lb_X11_wagesPaid_4 X n4 σ 0 0 _ _ _ hw h (lv_sub hl [2, 1, 0] rfl))
end
section
variable {p : Program} {l : Launch} {e : Env} {s : State} {m : MethodId} {args : Array Value} {below : List Frame} {meth : Method} {c : Code} {D : va_G} {ct : Nat → ClassId} {ad : Nat → Nat → Nat} {L : List (Nat × Nat)} {φ : Nat → Nat → Nat → Bool} {N0 : Nat}
variable {Q : Int → St → Prop}
set_option maxRecDepth 100000 in
set_option maxHeartbeats 4000000 in
theorem lb_X11_logsThatBecame_37 (X : Cx p s m meth c args cX11_logsThatBecame 5 (some .int) RX11 D ct L φ N0) {K4 : St → Int → Int → Int → Prop} (hK4 : ∀ (σ : St) (x1 : Int) (x2 : Int) (x3 : Int) (H : Heap) (locs : List Loc) (ls : Array Slot), K4 σ x1 x2 x3 → Hs D ct ad L φ N0 s.heap σ H locs → lv_has ls 5 [(0, .ref (ad 11 0)), (1, .int (iv x1)), (2, .int (iv x2)), (3, .int (iv x3))] → W p l e ({ frames := 0, cells := 0, slots := 0, locals := 0 } : Room) s m args below meth c H locs 0 0 (MQ below (Qi D ct ad L φ N0 Q) args s 0 0 (AA N0)) (F0 m 4 ls [])) (σ : St) (x1 : Int) (x2 : Int) (x3 : Int) (H : Heap) (locs : List Loc) (ls : Array Slot) (hw : wp_X11_logsThatBecame_37 K4 Q σ x1 x2 x3) (h : Hs D ct ad L φ N0 s.heap σ H locs) (hl : lv_has ls 5 [(0, .ref (ad 11 0)), (1, .int (iv x1)), (2, .int (iv x2)), (3, .int (iv x3))]) : W p l e ({ frames := 0, cells := 0, slots := 0, locals := 0 } : Room) s m args below meth c H locs 0 0 (MQ below (Qi D ct ad L φ N0 Q) args s 0 0 (AA N0)) (F0 m 37 ls []) := by
  have hF := X.2.2.2.2.2.2.2.2.1
  unfold wp_X11_logsThatBecame_37 at hw
  refine j_iinc (kk9 := 3) (lv' := [(3, .int (iv (x3 + 1))), (0, .ref (ad 11 0)), (1, .int (iv x1)), (2, .int (iv x2))]) X dX11_logsThatBecame_37 hl rfl (by decide) rfl (fun ls hl => ?_)
  refine lv_goto (tgt := 4) X.1 X.2.1 dX11_logsThatBecame_40 (by decide) ?_
  exact hK4 σ x1 x2 (x3 + 1) _ _ _ hw h (lv_sub hl [1, 2, 3, 0] rfl)
set_option maxRecDepth 100000 in
set_option maxHeartbeats 4000000 in
theorem lb_X11_logsThatBecame_4 (X : Cx p s m meth c args cX11_logsThatBecame 5 (some .int) RX11 D ct L φ N0) : ∀ (n : Nat) (σ : St) (x1 : Int) (x2 : Int) (x3 : Int) (H : Heap) (locs : List Loc) (ls : Array Slot), wp_X11_logsThatBecame_4 Q n σ x1 x2 x3 → Hs D ct ad L φ N0 s.heap σ H locs → lv_has ls 5 [(0, .ref (ad 11 0)), (1, .int (iv x1)), (2, .int (iv x2)), (3, .int (iv x3))] → W p l e ({ frames := 0, cells := 0, slots := 0, locals := 0 } : Room) s m args below meth c H locs 0 0 (MQ below (Qi D ct ad L φ N0 Q) args s 0 0 (AA N0)) (F0 m 4 ls []) := by
  have hF := X.2.2.2.2.2.2.2.2.1
  intro n
  induction n with
  | zero => intro σ x1 x2 x3 H locs ls hw; exact hw.elim
  | succ n ih =>
    intro σ x1 x2 x3 H locs ls hw h hl
    unfold wp_X11_logsThatBecame_4 at hw
    refine lv_iload_n X.1 X.2.1 dX11_logsThatBecame_4 rfl (lv_at hl 3 rfl) ?_
    refine lv_aload_n X.1 X.2.1 dX11_logsThatBecame_5 rfl (lv_at hl 0 rfl) ?_
    refine r_get (ci := 11) X inw_11 h (hF.1 11 rfl).1 rfl rfl 4 (by decide) kw_462 rfl dX11_logsThatBecame_6 ?_
    obtain ⟨g_1, g_2, hwt, hwf⟩ := hw
    refine j_cmp_ge (tgt := 43) X g_1 g_2 dX11_logsThatBecame_9 (by decide) (fun c_11 => ?_) (fun c_11 => ?_)
    · have hw := hwt c_11
      refine lv_iload_n X.1 X.2.1 dX11_logsThatBecame_43 rfl (lv_at hl 2 rfl) ?_
      exact k_ir X rfl h hw dX11_logsThatBecame_44
    · have hw := hwf c_11
      refine lv_aload_n X.1 X.2.1 dX11_logsThatBecame_12 rfl (lv_at hl 0 rfl) ?_
      refine r_getR (ci := 11) X inw_11 h (hF.1 11 rfl).1 rfl rfl 3 (by decide) kw_461 rfl ((hF.1 11 rfl).2 3) dX11_logsThatBecame_13 ?_
      refine lv_iload_n X.1 X.2.1 dX11_logsThatBecame_16 rfl (lv_at hl 3 rfl) ?_
      obtain ⟨g_3, g_4, hwt, hwf⟩ := hw
      refine r_aaD (n := 300) (t := 3) X h (hF.1 77 rfl).1 rfl rfl (by decide) g_3 g_4 dX11_logsThatBecame_17 (fun c_9 => ?_) (fun c_9 => ?_)
      · have hw := hwt c_9
        refine lv_astoreN (lv' := [(4, .null), (0, .ref (ad 11 0)), (1, .int (iv x1)), (2, .int (iv x2)), (3, .int (iv x3))]) X.1 X.2.1 dX11_logsThatBecame_18 hl (by decide) rfl (fun ls hl => ?_)
        refine lv_aloadN X.1 X.2.1 dX11_logsThatBecame_20 (lv_at hl 0 rfl) ?_
        refine lv_ifnullN (tgt := 37) X.1 X.2.1 dX11_logsThatBecame_22 (by decide) ?_
        exact lb_X11_logsThatBecame_37 X ih σ x1 x2 x3 _ _ _ hw h (lv_sub hl [1, 2, 3, 4] rfl)
      · have hw := hwf c_9 (h.2.2.2.2.2.1 _ c_9)
        refine lv_astore (lv' := [(4, .ref (ad 4 (Int.toNat x3))), (0, .ref (ad 11 0)), (1, .int (iv x1)), (2, .int (iv x2)), (3, .int (iv x3))]) X.1 X.2.1 dX11_logsThatBecame_18 hl (by decide) rfl (fun ls hl => ?_)
        refine lv_aload X.1 X.2.1 dX11_logsThatBecame_20 (lv_at hl 0 rfl) ?_
        refine lv_ifnull X.1 X.2.1 dX11_logsThatBecame_22 ?_
        refine lv_aload X.1 X.2.1 dX11_logsThatBecame_25 (lv_at hl 0 rfl) ?_
        obtain ⟨g_5, hw⟩ := hw
        refine r_getN (ci := 4) X inw_4 h (h.2.2.1 (Int.toNat x3) g_5).1 rfl rfl 8 (by decide) kw_721 rfl dX11_logsThatBecame_27 ?_
        refine lv_iload_n X.1 X.2.1 dX11_logsThatBecame_30 rfl (lv_at hl 2 rfl) ?_
        obtain ⟨g_6, g_7, hwt, hwf⟩ := hw
        refine j_cmp_ne (tgt := 37) X g_6 g_7 dX11_logsThatBecame_31 (by decide) (fun c_8 => ?_) (fun c_8 => ?_)
        · have hw := hwt c_8
          exact lb_X11_logsThatBecame_37 X ih σ x1 x2 x3 _ _ _ hw h (lv_sub hl [1, 2, 3, 4] rfl)
        · have hw := hwf c_8
          refine j_iinc (kk9 := 3) (lv' := [(2, .int (iv (x2 + 1))), (4, .ref (ad 4 (Int.toNat x3))), (0, .ref (ad 11 0)), (1, .int (iv x1)), (3, .int (iv x3))]) X dX11_logsThatBecame_34 hl rfl (by decide) rfl (fun ls hl => ?_)
          exact lb_X11_logsThatBecame_37 X ih σ x1 (x2 + 1) x3 _ _ _ hw h (lv_sub hl [2, 3, 0, 4] rfl)
theorem pd_X11_logsThatBecame : yX11_logsThatBecame.cls ≠ "java/lang/invoke/MethodHandle" ∧ yX11_logsThatBecame.cls ≠ "java/lang/invoke/VarHandle" ∧ (parseMethodDescriptor yX11_logsThatBecame.desc).map (fun d => d.parameters.length) = some 1 := by decide +kernel
set_option maxRecDepth 100000 in
set_option maxHeartbeats 4000000 in
theorem c_X11_logsThatBecame (l : Launch) (D : va_G) (ct : Nat → ClassId) (ad : Nat → Nat → Nat) (L : List (Nat × Nat)) (φ : Nat → Nat → Nat → Bool) (N0 : Nat) (σ : St) (x1 : Int) (Q : Int → St → Prop) (hw : wp_X11_logsThatBecame σ x1 Q) : Met l yX11_logsThatBecame (.code yX11_logsThatBecame cX11_logsThatBecame 5 (some .int) :: gw) ({ frames := 0, cells := 0, slots := 0, locals := 0 } : Room) (Pm D ct ad L φ N0 σ [.ref (ad 11 0), .int (iv x1)]) (Qi D ct ad L φ N0 Q) 0 0 (AA N0) := by
  refine m_of (by decide) (fun p e s m below meth c X hnm h => ?_)
  have hF := X.2.2.2.2.2.2.2.2.1
  have hl := lv_entry ([.ref (ad 11 0), .int (iv x1)]) (n := 5) (Nat.le_of_ble_eq_true rfl)
  rw [lg_entry_eq]
  generalize (lg_sl ([.ref (ad 11 0), .int (iv x1)]) ++ List.replicate (5 - (lg_sl ([.ref (ad 11 0), .int (iv x1)])).length) Slot.unset).toArray = ls at hl ⊢
  have hl : lv_has ls 5 [(0, .ref (ad 11 0)), (1, .int (iv x1))] := hl
  have h : Hs D ct ad L φ N0 s.heap σ s.heap [] := h
  unfold wp_X11_logsThatBecame at hw
  refine j_iconst X dX11_logsThatBecame_0 ?_
  refine lv_istore_n (lv' := [(2, .int (iv 0)), (0, .ref (ad 11 0)), (1, .int (iv x1))]) X.1 X.2.1 dX11_logsThatBecame_1 rfl hl (by decide) rfl (fun ls hl => ?_)
  refine j_iconst X dX11_logsThatBecame_2 ?_
  refine lv_istore_n (lv' := [(3, .int (iv 0)), (2, .int (iv 0)), (0, .ref (ad 11 0)), (1, .int (iv x1))]) X.1 X.2.1 dX11_logsThatBecame_3 rfl hl (by decide) rfl (fun ls hl => ?_)
  exact hw.elim (fun n4 hw => lb_X11_logsThatBecame_4 X n4 σ x1 0 0 _ _ _ hw h (lv_sub hl [2, 3, 1, 0] rfl))
end
section
variable {p : Program} {l : Launch} {e : Env} {s : State} {m : MethodId} {args : Array Value} {below : List Frame} {meth : Method} {c : Code} {D : va_G} {ct : Nat → ClassId} {ad : Nat → Nat → Nat} {L : List (Nat × Nat)} {φ : Nat → Nat → Nat → Bool} {N0 : Nat}
variable {Q : Int → St → Prop}
theorem pd_X11_count : yX11_count.cls ≠ "java/lang/invoke/MethodHandle" ∧ yX11_count.cls ≠ "java/lang/invoke/VarHandle" ∧ (parseMethodDescriptor yX11_count.desc).map (fun d => d.parameters.length) = some 1 := by decide +kernel
set_option maxRecDepth 100000 in
set_option maxHeartbeats 4000000 in
theorem c_X11_count (l : Launch) (D : va_G) (ct : Nat → ClassId) (ad : Nat → Nat → Nat) (L : List (Nat × Nat)) (φ : Nat → Nat → Nat → Bool) (N0 : Nat) (σ : St) (x1 : Int) (Q : Int → St → Prop) (hw : wp_X11_count σ x1 Q) : Met l yX11_count (.code yX11_count cX11_count 2 (some .int) :: gw) ({ frames := 2, cells := 0, slots := 0, locals := 45 } : Room) (Pm D ct ad L φ N0 σ [.ref (ad 11 0), .int (iv x1)]) (Qi D ct ad L φ N0 Q) 0 0 (AA N0) := by
  refine m_of (by decide) (fun p e s m below meth c X hnm h => ?_)
  have hF := X.2.2.2.2.2.2.2.2.1
  have hl := lv_entry ([.ref (ad 11 0), .int (iv x1)]) (n := 2) (Nat.le_of_ble_eq_true rfl)
  rw [lg_entry_eq]
  generalize (lg_sl ([.ref (ad 11 0), .int (iv x1)]) ++ List.replicate (2 - (lg_sl ([.ref (ad 11 0), .int (iv x1)])).length) Slot.unset).toArray = ls at hl ⊢
  have hl : lv_has ls 2 [(0, .ref (ad 11 0)), (1, .int (iv x1))] := hl
  have h : Hs D ct ad L φ N0 s.heap σ s.heap [] := h
  unfold wp_X11_count at hw
  refine lv_iload_n X.1 X.2.1 dX11_count_0 rfl (lv_at hl 1 rfl) ?_
  obtain ⟨g_1, hw0, hw1, hw2, hw3, hw4, hw5, hw6, hw7, hw8, hw9, hw10, hw11, hw12, hw13, hw14⟩ := hw
  by_cases c_14 : x1 = 0
  · have hw := hw0 c_14
    refine j_tin (v := 0) (tgt := 72) X g_1 c_14 dX11_count_1 (by decide) (by decide) rfl (by decide) ?_
    refine lv_aload_n X.1 X.2.1 dX11_count_72 rfl (lv_at hl 0 rfl) ?_
    refine r_getR (ci := 11) X inw_11 h (hF.1 11 rfl).1 rfl rfl 0 (by decide) kw_458 rfl ((hF.1 11 rfl).2 0) dX11_count_73 ?_
    refine r_getN (ci := 7) X inw_7 h (hF.1 7 rfl).1 rfl rfl 3 (by decide) kw_164 rfl dX11_count_76 ?_
    exact k_ir X rfl h hw dX11_count_79
  by_cases c_15 : x1 = 1
  · have hw := hw1 c_15
    refine j_tin (v := 1) (tgt := 80) X g_1 c_15 dX11_count_1 (by decide) (by decide) rfl (by decide) ?_
    refine lv_aload_n X.1 X.2.1 dX11_count_80 rfl (lv_at hl 0 rfl) ?_
    refine r_get (ci := 11) X inw_11 h (hF.1 11 rfl).1 rfl rfl 4 (by decide) kw_462 rfl dX11_count_81 ?_
    exact k_ir X rfl h hw dX11_count_84
  by_cases c_16 : x1 = 2
  · have hw := hw2 c_16
    refine j_tin (v := 2) (tgt := 85) X g_1 c_16 dX11_count_1 (by decide) (by decide) rfl (by decide) ?_
    refine lv_aload_n X.1 X.2.1 dX11_count_85 rfl (lv_at hl 0 rfl) ?_
    refine r_get (ci := 11) X inw_11 h (hF.1 11 rfl).1 rfl rfl 6 (by decide) kw_464 rfl dX11_count_86 ?_
    exact k_ir X rfl h hw dX11_count_89
  by_cases c_17 : x1 = 3
  · have hw := hw3 c_17
    refine j_tin (v := 3) (tgt := 90) X g_1 c_17 dX11_count_1 (by decide) (by decide) rfl (by decide) ?_
    refine lv_aload_n X.1 X.2.1 dX11_count_90 rfl (lv_at hl 0 rfl) ?_
    refine r_get (ci := 11) X inw_11 h (hF.1 11 rfl).1 rfl rfl 7 (by decide) kw_465 rfl dX11_count_91 ?_
    exact k_ir X rfl h hw dX11_count_94
  by_cases c_18 : x1 = 4
  · have hw := hw4 c_18
    refine j_tin (v := 4) (tgt := 95) X g_1 c_18 dX11_count_1 (by decide) (by decide) rfl (by decide) ?_
    refine lv_aload_n X.1 X.2.1 dX11_count_95 rfl (lv_at hl 0 rfl) ?_
    refine k_i h (r_V (C := RX11) (ci := 11) (As := []) (rest := []) X h (c_X11_ironLaid l D ct ad L φ N0 σ _ hw) rfl rfl ⟨Nat.le_of_ble_eq_true rfl, Nat.le_of_ble_eq_true rfl⟩ kw_1523 kw_1525 kw_60 kw_120 kw_1526 ⟨rfl, pd_X11_ironLaid⟩ (hF.1 11 rfl).1 rfl rfl rfl hl.1 rfl (Nat.le_of_ble_eq_true rfl) ⟨Nat.le_of_ble_eq_true rfl, Nat.le_of_ble_eq_true rfl⟩ dX11_count_96) (fun r_3 σ_2 H locs hw h => ?_)
    exact k_ir X rfl h hw dX11_count_99
  by_cases c_19 : x1 = 5
  · have hw := hw5 c_19
    refine j_tin (v := 5) (tgt := 100) X g_1 c_19 dX11_count_1 (by decide) (by decide) rfl (by decide) ?_
    refine lv_aload_n X.1 X.2.1 dX11_count_100 rfl (lv_at hl 0 rfl) ?_
    refine r_getR (ci := 11) X inw_11 h (hF.1 11 rfl).1 rfl rfl 9 (by decide) kw_467 rfl ((hF.1 11 rfl).2 9) dX11_count_101 ?_
    refine r_getN (ci := 8) X inw_8 h (hF.1 8 rfl).1 rfl rfl 10 (by decide) kw_293 rfl dX11_count_104 ?_
    exact k_ir X rfl h hw dX11_count_107
  by_cases c_20 : x1 = 6
  · have hw := hw6 c_20
    refine j_tin (v := 6) (tgt := 108) X g_1 c_20 dX11_count_1 (by decide) (by decide) rfl (by decide) ?_
    refine lv_aload_n X.1 X.2.1 dX11_count_108 rfl (lv_at hl 0 rfl) ?_
    refine r_get (ci := 11) X inw_11 h (hF.1 11 rfl).1 rfl rfl 11 (by decide) kw_469 rfl dX11_count_109 ?_
    exact k_ir X rfl h hw dX11_count_112
  by_cases c_21 : x1 = 7
  · have hw := hw7 c_21
    refine j_tin (v := 7) (tgt := 113) X g_1 c_21 dX11_count_1 (by decide) (by decide) rfl (by decide) ?_
    refine lv_aload_n X.1 X.2.1 dX11_count_113 rfl (lv_at hl 0 rfl) ?_
    refine r_getR (ci := 11) X inw_11 h (hF.1 11 rfl).1 rfl rfl 17 (by decide) kw_475 rfl ((hF.1 11 rfl).2 17) dX11_count_114 ?_
    refine r_getN (ci := 6) X inw_6 h (hF.1 6 rfl).1 rfl rfl 6 (by decide) kw_343 rfl dX11_count_117 ?_
    exact k_ir X rfl h hw dX11_count_120
  by_cases c_22 : x1 = 8
  · have hw := hw8 c_22
    refine j_tin (v := 8) (tgt := 121) X g_1 c_22 dX11_count_1 (by decide) (by decide) rfl (by decide) ?_
    refine lv_aload_n X.1 X.2.1 dX11_count_121 rfl (lv_at hl 0 rfl) ?_
    refine r_getR (ci := 11) X inw_11 h (hF.1 11 rfl).1 rfl rfl 17 (by decide) kw_475 rfl ((hF.1 11 rfl).2 17) dX11_count_122 ?_
    refine r_getN (ci := 6) X inw_6 h (hF.1 6 rfl).1 rfl rfl 7 (by decide) kw_345 rfl dX11_count_125 ?_
    exact k_ir X rfl h hw dX11_count_128
  by_cases c_23 : x1 = 9
  · have hw := hw9 c_23
    refine j_tin (v := 9) (tgt := 129) X g_1 c_23 dX11_count_1 (by decide) (by decide) rfl (by decide) ?_
    refine lv_aload_n X.1 X.2.1 dX11_count_129 rfl (lv_at hl 0 rfl) ?_
    refine r_getR (ci := 11) X inw_11 h (hF.1 11 rfl).1 rfl rfl 8 (by decide) kw_466 rfl ((hF.1 11 rfl).2 8) dX11_count_130 ?_
    refine r_getN (ci := 9) X inw_9 h (hF.1 9 rfl).1 rfl rfl 1 (by decide) kw_259 rfl dX11_count_133 ?_
    exact k_ir X rfl h hw dX11_count_136
  by_cases c_24 : x1 = 10
  · have hw := hw10 c_24
    refine j_tin (v := 10) (tgt := 137) X g_1 c_24 dX11_count_1 (by decide) (by decide) rfl (by decide) ?_
    refine lv_aload_n X.1 X.2.1 dX11_count_137 rfl (lv_at hl 0 rfl) ?_
    refine r_get (ci := 11) X inw_11 h (hF.1 11 rfl).1 rfl rfl 16 (by decide) kw_474 rfl dX11_count_138 ?_
    exact k_ir X rfl h hw dX11_count_141
  by_cases c_25 : x1 = 11
  · have hw := hw11 c_25
    refine j_tin (v := 11) (tgt := 142) X g_1 c_25 dX11_count_1 (by decide) (by decide) rfl (by decide) ?_
    refine lv_aload_n X.1 X.2.1 dX11_count_142 rfl (lv_at hl 0 rfl) ?_
    refine r_getR (ci := 11) X inw_11 h (hF.1 11 rfl).1 rfl rfl 18 (by decide) kw_476 rfl ((hF.1 11 rfl).2 18) dX11_count_143 ?_
    refine r_getN (ci := 5) X inw_5 h (hF.1 5 rfl).1 rfl rfl 3 (by decide) kw_386 rfl dX11_count_146 ?_
    exact k_ir X rfl h hw dX11_count_149
  by_cases c_26 : x1 = 12
  · have hw := hw12 c_26
    refine j_tin (v := 12) (tgt := 150) X g_1 c_26 dX11_count_1 (by decide) (by decide) rfl (by decide) ?_
    refine lv_aload_n X.1 X.2.1 dX11_count_150 rfl (lv_at hl 0 rfl) ?_
    refine k_i h (r_V (C := RX11) (ci := 11) (As := []) (rest := []) X h (c_X11_wagesPaid l D ct ad L φ N0 σ _ hw) rfl rfl ⟨Nat.le_of_ble_eq_true rfl, Nat.le_of_ble_eq_true rfl⟩ kw_1527 kw_1529 kw_61 kw_120 kw_1530 ⟨rfl, pd_X11_wagesPaid⟩ (hF.1 11 rfl).1 rfl rfl rfl hl.1 rfl (Nat.le_of_ble_eq_true rfl) ⟨Nat.le_of_ble_eq_true rfl, Nat.le_of_ble_eq_true rfl⟩ dX11_count_151) (fun r_5 σ_4 H locs hw h => ?_)
    exact k_ir X rfl h hw dX11_count_154
  by_cases c_27 : x1 = 13
  · have hw := hw13 c_27
    refine j_tin (v := 13) (tgt := 155) X g_1 c_27 dX11_count_1 (by decide) (by decide) rfl (by decide) ?_
    refine lv_aload_n X.1 X.2.1 dX11_count_155 rfl (lv_at hl 0 rfl) ?_
    refine r_getR (ci := 11) X inw_11 h (hF.1 11 rfl).1 rfl rfl 1 (by decide) kw_459 rfl ((hF.1 11 rfl).2 1) dX11_count_156 ?_
    refine k_i h (r_V (C := RX3) (ci := 3) (As := []) (rest := []) X h (c_X3_allStems l D ct ad L φ N0 σ _ hw) rfl rfl ⟨Nat.le_of_ble_eq_true rfl, Nat.le_of_ble_eq_true rfl⟩ kw_1531 kw_1532 kw_1533 kw_122 kw_1534 ⟨rfl, pd_X3_allStems⟩ (hF.1 3 rfl).1 rfl rfl rfl hl.1 rfl (Nat.le_of_ble_eq_true rfl) ⟨Nat.le_of_ble_eq_true rfl, Nat.le_of_ble_eq_true rfl⟩ dX11_count_159) (fun r_7 σ_6 H locs hw h => ?_)
    exact k_ir X rfl h hw dX11_count_162
  have c_28 : x1 < 0 ∨ 13 < x1 := by omega
  have hw := hw14 c_28
  refine j_tout (tgt := 163) X g_1 c_28 dX11_count_1 (by decide) ?_
  refine lv_iload_n X.1 X.2.1 dX11_count_163 rfl (lv_at hl 1 rfl) ?_
  refine j_bipush X dX11_count_164 (by decide) ?_
  refine j_bipush X dX11_count_166 (by decide) ?_
  refine k_i h (r_S (As := [.int (iv x1), .int (iv 20), .int (iv 24)]) (rest := []) X h (c_X11_within l D ct ad L φ N0 σ x1 20 24 _ hw) rfl rfl ⟨Nat.le_of_ble_eq_true rfl, Nat.le_of_ble_eq_true rfl⟩ kw_526 kw_527 kw_120 kw_528 pd_X11_within rfl hl.1 rfl (Nat.le_of_ble_eq_true rfl) ⟨Nat.le_of_ble_eq_true rfl, Nat.le_of_ble_eq_true rfl⟩ dX11_count_168) (fun r_9 σ_8 H locs hw h => ?_)
  obtain ⟨g_10, hwt, hwf⟩ := hw
  refine j_if_eq (tgt := 185) X g_10 dX11_count_171 (by decide) (fun c_13 => ?_) (fun c_13 => ?_)
  · have hw := hwt c_13
    refine j_iconst X dX11_count_185 ?_
    exact k_ir X rfl h hw dX11_count_186
  · have hw := hwf c_13
    refine lv_aload_n X.1 X.2.1 dX11_count_174 rfl (lv_at hl 0 rfl) ?_
    refine lv_iload_n X.1 X.2.1 dX11_count_175 rfl (lv_at hl 1 rfl) ?_
    refine j_bipush X dX11_count_176 (by decide) ?_
    refine j_isub X dX11_count_178 ?_
    refine k_i h (r_V (C := RX11) (ci := 11) (As := [.int (iv (x1 - 20))]) (rest := []) X h (c_X11_logsThatBecame l D ct ad L φ N0 σ_8 (x1 - 20) _ hw) rfl rfl ⟨Nat.le_of_ble_eq_true rfl, Nat.le_of_ble_eq_true rfl⟩ kw_1535 kw_1537 kw_62 kw_120 kw_1538 ⟨rfl, pd_X11_logsThatBecame⟩ (hF.1 11 rfl).1 rfl rfl rfl hl.1 rfl (Nat.le_of_ble_eq_true rfl) ⟨Nat.le_of_ble_eq_true rfl, Nat.le_of_ble_eq_true rfl⟩ dX11_count_179) (fun r_12 σ_11 H locs hw h => ?_)
    refine lv_goto (tgt := 186) X.1 X.2.1 dX11_count_182 (by decide) ?_
    exact k_ir X rfl h hw dX11_count_186
end
