/-! walked by program: 11.w -/
section
variable {p : Program} {l : Launch} {e : Env} {s : State} {m : MethodId} {args : Array Value} {below : List Frame} {meth : Method} {c : Code} {D : va_G} {ct : Nat → ClassId} {ad : Nat → Nat → Nat} {L : List (Nat × Nat)} {φ : Nat → Nat → Nat → Bool} {N0 : Nat}
variable {Q : St → Prop}
set_option maxRecDepth 100000 in
set_option maxHeartbeats 4000000 in
theorem lb_X3_clearBurnt_22 (X : Cx p s m meth c args cX3_clearBurnt 2 none RX3 D ct L φ N0) {K2 : St → Int → Prop} (hK2 : ∀ (σ : St) (x1 : Int) (H : Heap) (locs : List Loc) (ls : Array Slot), K2 σ x1 → Hs D ct ad L φ N0 s.heap σ H locs → lv_has ls 2 [(0, .ref (ad 3 0)), (1, .int (iv x1))] → W p l e ({ frames := 2, cells := 0, slots := 0, locals := 46 } : Room) s m args below meth c H locs 0 0 (MQ below (Qv D ct ad L φ N0 Q) args s 0 0 (AA N0)) (F0 m 2 ls [])) (σ : St) (x1 : Int) (H : Heap) (locs : List Loc) (ls : Array Slot) (hw : wp_X3_clearBurnt_22 K2 Q σ x1) (h : Hs D ct ad L φ N0 s.heap σ H locs) (hl : lv_has ls 2 [(0, .ref (ad 3 0)), (1, .int (iv x1))]) : W p l e ({ frames := 2, cells := 0, slots := 0, locals := 46 } : Room) s m args below meth c H locs 0 0 (MQ below (Qv D ct ad L φ N0 Q) args s 0 0 (AA N0)) (F0 m 22 ls []) := by
  have hF := X.2.2.2.2.2.2.2.2.1
  unfold wp_X3_clearBurnt_22 at hw
  refine j_iinc (kk9 := 1) (lv' := [(1, .int (iv (x1 + 1))), (0, .ref (ad 3 0))]) X dX3_clearBurnt_22 hl rfl (by decide) rfl (fun ls hl => ?_)
  refine lv_goto (tgt := 2) X.1 X.2.1 dX3_clearBurnt_25 (by decide) ?_
  exact hK2 σ (x1 + 1) _ _ _ hw h (lv_sub hl [1, 0] rfl)
set_option maxRecDepth 100000 in
set_option maxHeartbeats 4000000 in
theorem lb_X3_clearBurnt_2 (X : Cx p s m meth c args cX3_clearBurnt 2 none RX3 D ct L φ N0) : ∀ (n : Nat) (σ : St) (x1 : Int) (H : Heap) (locs : List Loc) (ls : Array Slot), wp_X3_clearBurnt_2 Q n σ x1 → Hs D ct ad L φ N0 s.heap σ H locs → lv_has ls 2 [(0, .ref (ad 3 0)), (1, .int (iv x1))] → W p l e ({ frames := 2, cells := 0, slots := 0, locals := 46 } : Room) s m args below meth c H locs 0 0 (MQ below (Qv D ct ad L φ N0 Q) args s 0 0 (AA N0)) (F0 m 2 ls []) := by
  have hF := X.2.2.2.2.2.2.2.2.1
  intro n
  induction n with
  | zero => intro σ x1 H locs ls hw; exact hw.elim
  | succ n ih =>
    intro σ x1 H locs ls hw h hl
    unfold wp_X3_clearBurnt_2 at hw
    refine lv_iload_n X.1 X.2.1 dX3_clearBurnt_2 rfl (lv_at hl 1 rfl) ?_
    refine j_bipush X dX3_clearBurnt_3 (by decide) ?_
    obtain ⟨g_1, hwt, hwf⟩ := hw
    refine j_cmp_ge (tgt := 28) X g_1 ⟨by decide, by decide⟩ dX3_clearBurnt_5 (by decide) (fun c_7 => ?_) (fun c_7 => ?_)
    · have hw := hwt c_7
      exact k_vr X h hw dX3_clearBurnt_28
    · have hw := hwf c_7
      refine lv_aload_n X.1 X.2.1 dX3_clearBurnt_8 rfl (lv_at hl 0 rfl) ?_
      refine r_getR (ci := 3) X inw_3 h (hF.1 3 rfl).1 rfl rfl 7 (by decide) kw_202 rfl ((hF.1 3 rfl).2 7) dX3_clearBurnt_9 ?_
      refine lv_iload_n X.1 X.2.1 dX3_clearBurnt_12 rfl (lv_at hl 1 rfl) ?_
      obtain ⟨g_2, g_3, hw⟩ := hw
      refine r_iald (n := 64) X h (hF.1 34 rfl).1 rfl (by decide) g_2 g_3 dX3_clearBurnt_13 ?_
      obtain ⟨g_4, hwt, hwf⟩ := hw
      refine j_if_le (tgt := 22) X g_4 dX3_clearBurnt_14 (by decide) (fun c_6 => ?_) (fun c_6 => ?_)
      · have hw := hwt c_6
        exact lb_X3_clearBurnt_22 X ih σ x1 _ _ _ hw h (lv_sub hl [0, 1] rfl)
      · have hw := hwf c_6
        refine lv_aload_n X.1 X.2.1 dX3_clearBurnt_17 rfl (lv_at hl 0 rfl) ?_
        refine lv_iload_n X.1 X.2.1 dX3_clearBurnt_18 rfl (lv_at hl 1 rfl) ?_
        refine k_v h (r_V (C := RX3) (ci := 3) (As := [.int (iv x1)]) (rest := []) X h (c_X3_clearCell l D ct ad L φ N0 σ x1 _ hw) rfl rfl ⟨Nat.le_of_ble_eq_true rfl, Nat.le_of_ble_eq_true rfl⟩ kw_1328 kw_1330 kw_47 kw_122 kw_1331 ⟨rfl, pd_X3_clearCell⟩ (hF.1 3 rfl).1 rfl rfl rfl hl.1 rfl (Nat.le_of_ble_eq_true rfl) ⟨Nat.le_of_ble_eq_true rfl, Nat.le_of_ble_eq_true rfl⟩ dX3_clearBurnt_19) (fun σ_5 H locs hw h => ?_)
        exact lb_X3_clearBurnt_22 X ih σ_5 x1 _ _ _ hw h (lv_sub hl [0, 1] rfl)
theorem pd_X3_clearBurnt : yX3_clearBurnt.cls ≠ "java/lang/invoke/MethodHandle" ∧ yX3_clearBurnt.cls ≠ "java/lang/invoke/VarHandle" ∧ (parseMethodDescriptor yX3_clearBurnt.desc).map (fun d => d.parameters.length) = some 0 := by decide +kernel
set_option maxRecDepth 100000 in
set_option maxHeartbeats 4000000 in
theorem c_X3_clearBurnt (l : Launch) (D : va_G) (ct : Nat → ClassId) (ad : Nat → Nat → Nat) (L : List (Nat × Nat)) (φ : Nat → Nat → Nat → Bool) (N0 : Nat) (σ : St) (Q : St → Prop) (hw : wp_X3_clearBurnt σ Q) : Met l yX3_clearBurnt (.code yX3_clearBurnt cX3_clearBurnt 2 none :: gw) ({ frames := 2, cells := 0, slots := 0, locals := 46 } : Room) (Pm D ct ad L φ N0 σ [.ref (ad 3 0)]) (Qv D ct ad L φ N0 Q) 0 0 (AA N0) := by
  refine m_of (by decide) (fun p e s m below meth c X hnm h => ?_)
  have hF := X.2.2.2.2.2.2.2.2.1
  have hl := lv_entry ([.ref (ad 3 0)]) (n := 2) (Nat.le_of_ble_eq_true rfl)
  rw [lg_entry_eq]
  generalize (lg_sl ([.ref (ad 3 0)]) ++ List.replicate (2 - (lg_sl ([.ref (ad 3 0)])).length) Slot.unset).toArray = ls at hl ⊢
  have hl : lv_has ls 2 [(0, .ref (ad 3 0))] := hl
  have h : Hs D ct ad L φ N0 s.heap σ s.heap [] := h
  unfold wp_X3_clearBurnt at hw
  refine j_iconst X dX3_clearBurnt_0 ?_
  refine lv_istore_n (lv' := [(1, .int (iv 0)), (0, .ref (ad 3 0))]) X.1 X.2.1 dX3_clearBurnt_1 rfl hl (by decide) rfl (fun ls hl => ?_)
  exact hw.elim (fun n2 hw => lb_X3_clearBurnt_2 X n2 σ 0 _ _ _ hw h (lv_sub hl [1, 0] rfl))
end
section
variable {p : Program} {l : Launch} {e : Env} {s : State} {m : MethodId} {args : Array Value} {below : List Frame} {meth : Method} {c : Code} {D : va_G} {ct : Nat → ClassId} {ad : Nat → Nat → Nat} {L : List (Nat × Nat)} {φ : Nat → Nat → Nat → Bool} {N0 : Nat}
variable {Q : Int → St → Prop}
set_option maxRecDepth 100000 in
set_option maxHeartbeats 4000000 in
theorem lb_X4_sumNow_41 (X : Cx p s m meth c args cX4_sumNow 4 (some .int) RX4 D ct L φ N0) (σ : St) (x2 : Int) (H : Heap) (locs : List Loc) (ls : Array Slot) (hw : wp_X4_sumNow_41 Q σ x2) (h : Hs D ct ad L φ N0 s.heap σ H locs) (hl : lv_has ls 4 [(2, .int (iv x2))]) : W p l e ({ frames := 0, cells := 0, slots := 0, locals := 0 } : Room) s m args below meth c H locs 0 0 (MQ below (Qi D ct ad L φ N0 Q) args s 0 0 (AA N0)) (F0 m 41 ls []) := by
  have hF := X.2.2.2.2.2.2.2.2.1
  unfold wp_X4_sumNow_41 at hw
  refine lv_iload_n X.1 X.2.1 dX4_sumNow_41 rfl (lv_at hl 0 rfl) ?_
  refine j_ldc (n := 65537) X kw_771 (by decide) dX4_sumNow_42 ?_
  obtain ⟨g_1, hw⟩ := hw
  refine j_irem X g_1 ⟨by decide, by decide⟩ (by decide) (by decide) dX4_sumNow_44 ?_
  exact k_ir X rfl h hw dX4_sumNow_45
set_option maxRecDepth 100000 in
set_option maxHeartbeats 4000000 in
theorem lb_X4_sumNow_33 (X : Cx p s m meth c args cX4_sumNow 4 (some .int) RX4 D ct L φ N0) {K4 : St → Nat → Int → Int → Int → Prop} {K41 : St → Int → Prop} (hK4 : ∀ (σ : St) (j0 : Nat) (x1 : Int) (x2 : Int) (x3 : Int) (H : Heap) (locs : List Loc) (ls : Array Slot), K4 σ j0 x1 x2 x3 → Hs D ct ad L φ N0 s.heap σ H locs → lv_has ls 4 [(0, .ref (ad 4 j0)), (1, .int (iv x1)), (2, .int (iv x2)), (3, .int (iv x3))] → W p l e ({ frames := 0, cells := 0, slots := 0, locals := 0 } : Room) s m args below meth c H locs 0 0 (MQ below (Qi D ct ad L φ N0 Q) args s 0 0 (AA N0)) (F0 m 4 ls [])) (hK41 : ∀ (σ : St) (x2 : Int) (H : Heap) (locs : List Loc) (ls : Array Slot), K41 σ x2 → Hs D ct ad L φ N0 s.heap σ H locs → lv_has ls 4 [(2, .int (iv x2))] → W p l e ({ frames := 0, cells := 0, slots := 0, locals := 0 } : Room) s m args below meth c H locs 0 0 (MQ below (Qi D ct ad L φ N0 Q) args s 0 0 (AA N0)) (F0 m 41 ls [])) (σ : St) (j0 : Nat) (x1 : Int) (x3 : Int) (y0 : Int) (y1 : Int) (H : Heap) (locs : List Loc) (ls : Array Slot) (hw : wp_X4_sumNow_33 K4 K41 Q σ j0 x1 x3 y0 y1) (h : Hs D ct ad L φ N0 s.heap σ H locs) (hl : lv_has ls 4 [(0, .ref (ad 4 j0)), (1, .int (iv x1)), (3, .int (iv x3))]) : W p l e ({ frames := 0, cells := 0, slots := 0, locals := 0 } : Room) s m args below meth c H locs 0 0 (MQ below (Qi D ct ad L φ N0 Q) args s 0 0 (AA N0)) (F0 m 33 ls [.int (iv y0), .int (iv y1)]) := by
  have hF := X.2.2.2.2.2.2.2.2.1
  unfold wp_X4_sumNow_33 at hw
  refine j_iadd X dX4_sumNow_33 ?_
  refine j_bind (fun v_2 ev_2 => ?_)
  have hw := hw v_2 ev_2
  refine lv_istore_n (lv' := [(2, .int (iv v_2)), (0, .ref (ad 4 j0)), (1, .int (iv x1)), (3, .int (iv x3))]) X.1 X.2.1 dX4_sumNow_34 rfl hl (by decide) rfl (fun ls hl => ?_)
  refine j_iinc (kk9 := 3) (lv' := [(3, .int (iv (x3 + 1))), (2, .int (iv v_2)), (0, .ref (ad 4 j0)), (1, .int (iv x1))]) X dX4_sumNow_35 hl rfl (by decide) rfl (fun ls hl => ?_)
  refine lv_goto (tgt := 4) X.1 X.2.1 dX4_sumNow_38 (by decide) ?_
  exact hK4 σ j0 x1 v_2 (x3 + 1) _ _ _ hw h (lv_sub hl [2, 3, 1, 0] rfl)
set_option maxRecDepth 100000 in
set_option maxHeartbeats 4000000 in
theorem lb_X4_sumNow_4 (X : Cx p s m meth c args cX4_sumNow 4 (some .int) RX4 D ct L φ N0) {K41 : St → Int → Prop} (hK41 : ∀ (σ : St) (x2 : Int) (H : Heap) (locs : List Loc) (ls : Array Slot), K41 σ x2 → Hs D ct ad L φ N0 s.heap σ H locs → lv_has ls 4 [(2, .int (iv x2))] → W p l e ({ frames := 0, cells := 0, slots := 0, locals := 0 } : Room) s m args below meth c H locs 0 0 (MQ below (Qi D ct ad L φ N0 Q) args s 0 0 (AA N0)) (F0 m 41 ls [])) : ∀ (n : Nat) (σ : St) (j0 : Nat) (x1 : Int) (x2 : Int) (x3 : Int) (H : Heap) (locs : List Loc) (ls : Array Slot), wp_X4_sumNow_4 K41 Q n σ j0 x1 x2 x3 → Hs D ct ad L φ N0 s.heap σ H locs → lv_has ls 4 [(0, .ref (ad 4 j0)), (1, .int (iv x1)), (2, .int (iv x2)), (3, .int (iv x3))] → W p l e ({ frames := 0, cells := 0, slots := 0, locals := 0 } : Room) s m args below meth c H locs 0 0 (MQ below (Qi D ct ad L φ N0 Q) args s 0 0 (AA N0)) (F0 m 4 ls []) := by
  have hF := X.2.2.2.2.2.2.2.2.1
  intro n
  induction n with
  | zero => intro σ j0 x1 x2 x3 H locs ls hw; exact hw.elim
  | succ n ih =>
    intro σ j0 x1 x2 x3 H locs ls hw h hl
    unfold wp_X4_sumNow_4 at hw
    refine lv_iload_n X.1 X.2.1 dX4_sumNow_4 rfl (lv_at hl 3 rfl) ?_
    refine j_iconst X dX4_sumNow_5 ?_
    obtain ⟨g_3, hwt, hwf⟩ := hw
    refine j_cmp_ge (tgt := 41) X g_3 ⟨by decide, by decide⟩ dX4_sumNow_6 (by decide) (fun c_14 => ?_) (fun c_14 => ?_)
    · have hw := hwt c_14
      exact hK41 σ x2 _ _ _ hw h (lv_sub hl [2] rfl)
    · have hw := hwf c_14
      refine lv_iload_n X.1 X.2.1 dX4_sumNow_9 rfl (lv_at hl 2 rfl) ?_
      refine lv_iload_n X.1 X.2.1 dX4_sumNow_10 rfl (lv_at hl 1 rfl) ?_
      obtain ⟨g_4, hwt, hwf⟩ := hw
      refine j_if_eq (tgt := 27) X g_4 dX4_sumNow_11 (by decide) (fun c_13 => ?_) (fun c_13 => ?_)
      · have hw := hwt c_13
        refine lv_aload_n X.1 X.2.1 dX4_sumNow_27 rfl (lv_at hl 0 rfl) ?_
        obtain ⟨g_5, hw⟩ := hw
        refine r_getR (ci := 4) X inw_4 h (h.2.2.1 j0 g_5).1 rfl rfl 13 (by decide) kw_726 rfl ((h.2.2.1 j0 g_5).2.2.2.2.2 13) dX4_sumNow_28 ?_
        refine lv_iload_n X.1 X.2.1 dX4_sumNow_31 rfl (lv_at hl 3 rfl) ?_
        obtain ⟨g_6, g_7, g_8, hw⟩ := hw
        refine r_iald (n := 5) X h (h.2.2.1 j0 g_6).2.2.2.2.1 rfl (by decide) g_7 g_8 dX4_sumNow_32 ?_
        exact lb_X4_sumNow_33 X ih hK41 σ j0 x1 x3 (σ 38 j0 (Int.toNat x3)) x2 _ _ _ hw h (lv_sub hl [0, 1, 3] rfl)
      · have hw := hwf c_13
        refine lv_aload_n X.1 X.2.1 dX4_sumNow_14 rfl (lv_at hl 0 rfl) ?_
        obtain ⟨g_9, hw⟩ := hw
        refine r_getR (ci := 4) X inw_4 h (h.2.2.1 j0 g_9).1 rfl rfl 13 (by decide) kw_726 rfl ((h.2.2.1 j0 g_9).2.2.2.2.2 13) dX4_sumNow_15 ?_
        refine lv_iload_n X.1 X.2.1 dX4_sumNow_18 rfl (lv_at hl 3 rfl) ?_
        obtain ⟨g_10, g_11, g_12, hw⟩ := hw
        refine r_iald (n := 5) X h (h.2.2.1 j0 g_10).2.2.2.2.1 rfl (by decide) g_11 g_12 dX4_sumNow_19 ?_
        refine lv_iload_n X.1 X.2.1 dX4_sumNow_20 rfl (lv_at hl 3 rfl) ?_
        refine j_iconst X dX4_sumNow_21 ?_
        refine j_iadd X dX4_sumNow_22 ?_
        refine j_imul X dX4_sumNow_23 ?_
        refine lv_goto (tgt := 33) X.1 X.2.1 dX4_sumNow_24 (by decide) ?_
        exact lb_X4_sumNow_33 X ih hK41 σ j0 x1 x3 ((σ 38 j0 (Int.toNat x3)) * (x3 + 1)) x2 _ _ _ hw h (lv_sub hl [0, 1, 3] rfl)
theorem pd_X4_sumNow : yX4_sumNow.cls ≠ "java/lang/invoke/MethodHandle" ∧ yX4_sumNow.cls ≠ "java/lang/invoke/VarHandle" ∧ (parseMethodDescriptor yX4_sumNow.desc).map (fun d => d.parameters.length) = some 1 := by decide +kernel
set_option maxRecDepth 100000 in
set_option maxHeartbeats 4000000 in
theorem c_X4_sumNow (l : Launch) (D : va_G) (ct : Nat → ClassId) (ad : Nat → Nat → Nat) (L : List (Nat × Nat)) (φ : Nat → Nat → Nat → Bool) (N0 : Nat) (σ : St) (j0 : Nat) (x1 : Int) (Q : Int → St → Prop) (hw : wp_X4_sumNow σ j0 x1 Q) : Met l yX4_sumNow (.code yX4_sumNow cX4_sumNow 4 (some .int) :: gw) ({ frames := 0, cells := 0, slots := 0, locals := 0 } : Room) (Pm D ct ad L φ N0 σ [.ref (ad 4 j0), .int (iv x1)]) (Qi D ct ad L φ N0 Q) 0 0 (AA N0) := by
  refine m_of (by decide) (fun p e s m below meth c X hnm h => ?_)
  have hF := X.2.2.2.2.2.2.2.2.1
  have hl := lv_entry ([.ref (ad 4 j0), .int (iv x1)]) (n := 4) (Nat.le_of_ble_eq_true rfl)
  rw [lg_entry_eq]
  generalize (lg_sl ([.ref (ad 4 j0), .int (iv x1)]) ++ List.replicate (4 - (lg_sl ([.ref (ad 4 j0), .int (iv x1)])).length) Slot.unset).toArray = ls at hl ⊢
  have hl : lv_has ls 4 [(0, .ref (ad 4 j0)), (1, .int (iv x1))] := hl
  have h : Hs D ct ad L φ N0 s.heap σ s.heap [] := h
  unfold wp_X4_sumNow at hw
  refine j_iconst X dX4_sumNow_0 ?_
  refine lv_istore_n (lv' := [(2, .int (iv 0)), (0, .ref (ad 4 j0)), (1, .int (iv x1))]) X.1 X.2.1 dX4_sumNow_1 rfl hl (by decide) rfl (fun ls hl => ?_)
  refine j_iconst X dX4_sumNow_2 ?_
  refine lv_istore_n (lv' := [(3, .int (iv 0)), (2, .int (iv 0)), (0, .ref (ad 4 j0)), (1, .int (iv x1))]) X.1 X.2.1 dX4_sumNow_3 rfl hl (by decide) rfl (fun ls hl => ?_)
  exact hw.elim (fun n4 hw => lb_X4_sumNow_4 X (lb_X4_sumNow_41 X) n4 σ j0 x1 0 0 _ _ _ hw h (lv_sub hl [2, 3, 1, 0] rfl))
end
section
variable {p : Program} {l : Launch} {e : Env} {s : State} {m : MethodId} {args : Array Value} {below : List Frame} {meth : Method} {c : Code} {D : va_G} {ct : Nat → ClassId} {ad : Nat → Nat → Nat} {L : List (Nat × Nat)} {φ : Nat → Nat → Nat → Bool} {N0 : Nat}
variable {Q : St → Prop}
theorem pd_X4_comeOn : yX4_comeOn.cls ≠ "java/lang/invoke/MethodHandle" ∧ yX4_comeOn.cls ≠ "java/lang/invoke/VarHandle" ∧ (parseMethodDescriptor yX4_comeOn.desc).map (fun d => d.parameters.length) = some 1 := by decide +kernel
set_option maxRecDepth 100000 in
set_option maxHeartbeats 4000000 in
theorem c_X4_comeOn (l : Launch) (D : va_G) (ct : Nat → ClassId) (ad : Nat → Nat → Nat) (L : List (Nat × Nat)) (φ : Nat → Nat → Nat → Bool) (N0 : Nat) (σ : St) (j0 : Nat) (x1 : Int) (Q : St → Prop) (hw : wp_X4_comeOn σ j0 x1 Q) : Met l yX4_comeOn (.code yX4_comeOn cX4_comeOn 2 none :: gw) ({ frames := 1, cells := 0, slots := 0, locals := 23 } : Room) (Pm D ct ad L φ N0 σ [.ref (ad 4 j0), .int (iv x1)]) (Qv D ct ad L φ N0 Q) 0 0 (AA N0) := by
  refine m_of (by decide) (fun p e s m below meth c X hnm h => ?_)
  have hF := X.2.2.2.2.2.2.2.2.1
  have hl := lv_entry ([.ref (ad 4 j0), .int (iv x1)]) (n := 2) (Nat.le_of_ble_eq_true rfl)
  rw [lg_entry_eq]
  generalize (lg_sl ([.ref (ad 4 j0), .int (iv x1)]) ++ List.replicate (2 - (lg_sl ([.ref (ad 4 j0), .int (iv x1)])).length) Slot.unset).toArray = ls at hl ⊢
  have hl : lv_has ls 2 [(0, .ref (ad 4 j0)), (1, .int (iv x1))] := hl
  have h : Hs D ct ad L φ N0 s.heap σ s.heap [] := h
  unfold wp_X4_comeOn at hw
  refine lv_aload_n X.1 X.2.1 dX4_comeOn_0 rfl (lv_at hl 0 rfl) ?_
  refine lv_iload_n X.1 X.2.1 dX4_comeOn_1 rfl (lv_at hl 1 rfl) ?_
  obtain ⟨g_1, hw⟩ := hw
  refine r_put (ci := 4) X inw_4 tyX4 tyX4_ok nmX4 h (h.2.2.1 j0 g_1).1 rfl rfl 6 (by decide) kw_717 rfl rfl rfl (Nat.le_of_ble_eq_true rfl) rfl rfl dX4_comeOn_2 (fun H locs h => ?_)
  obtain ⟨σ_2, eσ_2⟩ : ∃ z : St, z = st σ 4 j0 6 x1 := ⟨_, rfl⟩
  rw [← eσ_2] at h
  have hw := hw σ_2 eσ_2
  refine lv_aload_n X.1 X.2.1 dX4_comeOn_5 rfl (lv_at hl 0 rfl) ?_
  refine lv_iload_n X.1 X.2.1 dX4_comeOn_6 rfl (lv_at hl 1 rfl) ?_
  obtain ⟨g_3, hw⟩ := hw
  refine r_put (ci := 4) X inw_4 tyX4 tyX4_ok nmX4 h (h.2.2.1 j0 g_3).1 rfl rfl 7 (by decide) kw_718 rfl rfl rfl (Nat.le_of_ble_eq_true rfl) rfl rfl dX4_comeOn_7 (fun H locs h => ?_)
  obtain ⟨σ_4, eσ_4⟩ : ∃ z : St, z = st σ_2 4 j0 7 x1 := ⟨_, rfl⟩
  rw [← eσ_4] at h
  have hw := hw σ_4 eσ_4
  refine lv_aload_n X.1 X.2.1 dX4_comeOn_10 rfl (lv_at hl 0 rfl) ?_
  obtain ⟨g_5, hw⟩ := hw
  refine r_getR (ci := 4) X inw_4 h (h.2.2.1 j0 g_5).1 rfl rfl 13 (by decide) kw_726 rfl ((h.2.2.1 j0 g_5).2.2.2.2.2 13) dX4_comeOn_11 ?_
  refine j_iconst X dX4_comeOn_14 ?_
  refine lv_aload_n X.1 X.2.1 dX4_comeOn_15 rfl (lv_at hl 0 rfl) ?_
  obtain ⟨g_6, hw⟩ := hw
  refine r_get (ci := 4) X inw_4 h (h.2.2.1 j0 g_6).1 rfl rfl 5 (by decide) kw_715 rfl dX4_comeOn_16 ?_
  obtain ⟨g_7, hw⟩ := hw
  refine r_iast (n := 5) X h (h.2.2.1 j0 g_7).2.2.2.2.1 (fun _ => rfl) (by decide) (by decide) (by decide) rfl dX4_comeOn_19 (fun H locs h => ?_)
  obtain ⟨σ_8, eσ_8⟩ : ∃ z : St, z = st σ_4 38 j0 (Int.toNat 0) (σ_4 4 j0 5) := ⟨_, rfl⟩
  rw [← eσ_8] at h
  have hw := hw σ_8 eσ_8
  refine lv_aload_n X.1 X.2.1 dX4_comeOn_20 rfl (lv_at hl 0 rfl) ?_
  obtain ⟨g_9, hw⟩ := hw
  refine r_getR (ci := 4) X inw_4 h (h.2.2.1 j0 g_9).1 rfl rfl 13 (by decide) kw_726 rfl ((h.2.2.1 j0 g_9).2.2.2.2.2 13) dX4_comeOn_21 ?_
  refine j_iconst X dX4_comeOn_24 ?_
  refine lv_aload_n X.1 X.2.1 dX4_comeOn_25 rfl (lv_at hl 0 rfl) ?_
  obtain ⟨g_10, hw⟩ := hw
  refine r_get (ci := 4) X inw_4 h (h.2.2.1 j0 g_10).1 rfl rfl 0 (by decide) kw_706 rfl dX4_comeOn_26 ?_
  obtain ⟨g_11, hw⟩ := hw
  refine r_iast (n := 5) X h (h.2.2.1 j0 g_11).2.2.2.2.1 (fun _ => rfl) (by decide) (by decide) (by decide) rfl dX4_comeOn_29 (fun H locs h => ?_)
  obtain ⟨σ_12, eσ_12⟩ : ∃ z : St, z = st σ_8 38 j0 (Int.toNat 1) (σ_8 4 j0 0) := ⟨_, rfl⟩
  rw [← eσ_12] at h
  have hw := hw σ_12 eσ_12
  refine lv_aload_n X.1 X.2.1 dX4_comeOn_30 rfl (lv_at hl 0 rfl) ?_
  obtain ⟨g_13, hw⟩ := hw
  refine r_getR (ci := 4) X inw_4 h (h.2.2.1 j0 g_13).1 rfl rfl 13 (by decide) kw_726 rfl ((h.2.2.1 j0 g_13).2.2.2.2.2 13) dX4_comeOn_31 ?_
  refine j_iconst X dX4_comeOn_34 ?_
  refine lv_aload_n X.1 X.2.1 dX4_comeOn_35 rfl (lv_at hl 0 rfl) ?_
  obtain ⟨g_14, hw⟩ := hw
  refine r_get (ci := 4) X inw_4 h (h.2.2.1 j0 g_14).1 rfl rfl 1 (by decide) kw_707 rfl dX4_comeOn_36 ?_
  obtain ⟨g_15, hw⟩ := hw
  refine r_iast (n := 5) X h (h.2.2.1 j0 g_15).2.2.2.2.1 (fun _ => rfl) (by decide) (by decide) (by decide) rfl dX4_comeOn_39 (fun H locs h => ?_)
  obtain ⟨σ_16, eσ_16⟩ : ∃ z : St, z = st σ_12 38 j0 (Int.toNat 2) (σ_12 4 j0 1) := ⟨_, rfl⟩
  rw [← eσ_16] at h
  have hw := hw σ_16 eσ_16
  refine lv_aload_n X.1 X.2.1 dX4_comeOn_40 rfl (lv_at hl 0 rfl) ?_
  obtain ⟨g_17, hw⟩ := hw
  refine r_getR (ci := 4) X inw_4 h (h.2.2.1 j0 g_17).1 rfl rfl 13 (by decide) kw_726 rfl ((h.2.2.1 j0 g_17).2.2.2.2.2 13) dX4_comeOn_41 ?_
  refine j_iconst X dX4_comeOn_44 ?_
  refine lv_aload_n X.1 X.2.1 dX4_comeOn_45 rfl (lv_at hl 0 rfl) ?_
  obtain ⟨g_18, hw⟩ := hw
  refine r_get (ci := 4) X inw_4 h (h.2.2.1 j0 g_18).1 rfl rfl 2 (by decide) kw_709 rfl dX4_comeOn_46 ?_
  obtain ⟨g_19, hw⟩ := hw
  refine r_iast (n := 5) X h (h.2.2.1 j0 g_19).2.2.2.2.1 (fun _ => rfl) (by decide) (by decide) (by decide) rfl dX4_comeOn_49 (fun H locs h => ?_)
  obtain ⟨σ_20, eσ_20⟩ : ∃ z : St, z = st σ_16 38 j0 (Int.toNat 3) (σ_16 4 j0 2) := ⟨_, rfl⟩
  rw [← eσ_20] at h
  have hw := hw σ_20 eσ_20
  refine lv_aload_n X.1 X.2.1 dX4_comeOn_50 rfl (lv_at hl 0 rfl) ?_
  obtain ⟨g_21, hw⟩ := hw
  refine r_getR (ci := 4) X inw_4 h (h.2.2.1 j0 g_21).1 rfl rfl 13 (by decide) kw_726 rfl ((h.2.2.1 j0 g_21).2.2.2.2.2 13) dX4_comeOn_51 ?_
  refine j_iconst X dX4_comeOn_54 ?_
  refine lv_iload_n X.1 X.2.1 dX4_comeOn_55 rfl (lv_at hl 1 rfl) ?_
  obtain ⟨g_22, hw⟩ := hw
  refine r_iast (n := 5) X h (h.2.2.1 j0 g_22).2.2.2.2.1 (fun _ => rfl) (by decide) (by decide) (by decide) rfl dX4_comeOn_56 (fun H locs h => ?_)
  obtain ⟨σ_23, eσ_23⟩ : ∃ z : St, z = st σ_20 38 j0 (Int.toNat 4) x1 := ⟨_, rfl⟩
  rw [← eσ_23] at h
  have hw := hw σ_23 eσ_23
  refine lv_aload_n X.1 X.2.1 dX4_comeOn_57 rfl (lv_at hl 0 rfl) ?_
  refine lv_aload_n X.1 X.2.1 dX4_comeOn_58 rfl (lv_at hl 0 rfl) ?_
  refine j_iconst X dX4_comeOn_59 ?_
  obtain ⟨g_24, hw⟩ := hw
  refine k_i h (r_V (C := RX4) (ci := 4) (As := [.int (iv 0)]) (rest := [.ref (ad 4 j0)]) X h (c_X4_sumNow l D ct ad L φ N0 σ_23 j0 0 _ hw) rfl rfl ⟨Nat.le_of_ble_eq_true rfl, Nat.le_of_ble_eq_true rfl⟩ kw_767 kw_769 kw_10 kw_131 kw_770 ⟨rfl, pd_X4_sumNow⟩ (h.2.2.1 j0 g_24).1 rfl rfl rfl hl.1 rfl (Nat.le_of_ble_eq_true rfl) ⟨Nat.le_of_ble_eq_true rfl, Nat.le_of_ble_eq_true rfl⟩ dX4_comeOn_60) (fun r_26 σ_25 H locs hw h => ?_)
  obtain ⟨g_27, hw⟩ := hw
  refine r_put (ci := 4) X inw_4 tyX4 tyX4_ok nmX4 h (h.2.2.1 j0 g_27).1 rfl rfl 14 (by decide) kw_728 rfl rfl rfl (Nat.le_of_ble_eq_true rfl) rfl rfl dX4_comeOn_63 (fun H locs h => ?_)
  obtain ⟨σ_28, eσ_28⟩ : ∃ z : St, z = st σ_25 4 j0 14 r_26 := ⟨_, rfl⟩
  rw [← eσ_28] at h
  have hw := hw σ_28 eσ_28
  refine lv_aload_n X.1 X.2.1 dX4_comeOn_66 rfl (lv_at hl 0 rfl) ?_
  refine lv_aload_n X.1 X.2.1 dX4_comeOn_67 rfl (lv_at hl 0 rfl) ?_
  refine j_iconst X dX4_comeOn_68 ?_
  obtain ⟨g_29, hw⟩ := hw
  refine k_i h (r_V (C := RX4) (ci := 4) (As := [.int (iv 1)]) (rest := [.ref (ad 4 j0)]) X h (c_X4_sumNow l D ct ad L φ N0 σ_28 j0 1 _ hw) rfl rfl ⟨Nat.le_of_ble_eq_true rfl, Nat.le_of_ble_eq_true rfl⟩ kw_767 kw_769 kw_10 kw_131 kw_770 ⟨rfl, pd_X4_sumNow⟩ (h.2.2.1 j0 g_29).1 rfl rfl rfl hl.1 rfl (Nat.le_of_ble_eq_true rfl) ⟨Nat.le_of_ble_eq_true rfl, Nat.le_of_ble_eq_true rfl⟩ dX4_comeOn_69) (fun r_31 σ_30 H locs hw h => ?_)
  obtain ⟨g_32, hw⟩ := hw
  refine r_put (ci := 4) X inw_4 tyX4 tyX4_ok nmX4 h (h.2.2.1 j0 g_32).1 rfl rfl 15 (by decide) kw_729 rfl rfl rfl (Nat.le_of_ble_eq_true rfl) rfl rfl dX4_comeOn_72 (fun H locs h => ?_)
  obtain ⟨σ_33, eσ_33⟩ : ∃ z : St, z = st σ_30 4 j0 15 r_31 := ⟨_, rfl⟩
  rw [← eσ_33] at h
  have hw := hw σ_33 eσ_33
  exact k_vr X h hw dX4_comeOn_75
end
section
variable {p : Program} {l : Launch} {e : Env} {s : State} {m : MethodId} {args : Array Value} {below : List Frame} {meth : Method} {c : Code} {D : va_G} {ct : Nat → ClassId} {ad : Nat → Nat → Nat} {L : List (Nat × Nat)} {φ : Nat → Nat → Nat → Bool} {N0 : Nat}
variable {Q : Int → St → Prop}
theorem pd_X4_volume : yX4_volume.cls ≠ "java/lang/invoke/MethodHandle" ∧ yX4_volume.cls ≠ "java/lang/invoke/VarHandle" ∧ (parseMethodDescriptor yX4_volume.desc).map (fun d => d.parameters.length) = some 0 := by decide +kernel
set_option maxRecDepth 100000 in
set_option maxHeartbeats 4000000 in
theorem c_X4_volume (l : Launch) (D : va_G) (ct : Nat → ClassId) (ad : Nat → Nat → Nat) (L : List (Nat × Nat)) (φ : Nat → Nat → Nat → Bool) (N0 : Nat) (σ : St) (j0 : Nat) (Q : Int → St → Prop) (hw : wp_X4_volume σ j0 Q) : Met l yX4_volume (.code yX4_volume cX4_volume 1 (some .int) :: gw) ({ frames := 0, cells := 0, slots := 0, locals := 0 } : Room) (Pm D ct ad L φ N0 σ [.ref (ad 4 j0)]) (Qi D ct ad L φ N0 Q) 0 0 (AA N0) := by
  refine m_of (by decide) (fun p e s m below meth c X hnm h => ?_)
  have hF := X.2.2.2.2.2.2.2.2.1
  have hl := lv_entry ([.ref (ad 4 j0)]) (n := 1) (Nat.le_of_ble_eq_true rfl)
  rw [lg_entry_eq]
  generalize (lg_sl ([.ref (ad 4 j0)]) ++ List.replicate (1 - (lg_sl ([.ref (ad 4 j0)])).length) Slot.unset).toArray = ls at hl ⊢
  have hl : lv_has ls 1 [(0, .ref (ad 4 j0))] := hl
  have h : Hs D ct ad L φ N0 s.heap σ s.heap [] := h
  unfold wp_X4_volume at hw
  refine lv_aload_n X.1 X.2.1 dX4_volume_0 rfl (lv_at hl 0 rfl) ?_
  obtain ⟨g_1, hw⟩ := hw
  refine r_get (ci := 4) X inw_4 h (h.2.2.1 j0 g_1).1 rfl rfl 1 (by decide) kw_707 rfl dX4_volume_1 ?_
  refine lv_aload_n X.1 X.2.1 dX4_volume_4 rfl (lv_at hl 0 rfl) ?_
  obtain ⟨g_2, hw⟩ := hw
  refine r_get (ci := 4) X inw_4 h (h.2.2.1 j0 g_2).1 rfl rfl 2 (by decide) kw_709 rfl dX4_volume_5 ?_
  refine j_imul X dX4_volume_8 ?_
  refine j_bipush X dX4_volume_9 (by decide) ?_
  obtain ⟨g_3, hw⟩ := hw
  refine j_idiv X g_3 ⟨by decide, by decide⟩ (by decide) (by decide) dX4_volume_11 ?_
  refine j_iconst X dX4_volume_12 ?_
  refine j_iadd X dX4_volume_13 ?_
  exact k_ir X rfl h hw dX4_volume_14
end
section
variable {p : Program} {l : Launch} {e : Env} {s : State} {m : MethodId} {args : Array Value} {below : List Frame} {meth : Method} {c : Code} {D : va_G} {ct : Nat → ClassId} {ad : Nat → Nat → Nat} {L : List (Nat × Nat)} {φ : Nat → Nat → Nat → Bool} {N0 : Nat}
variable {Q : Int → St → Prop}
theorem pd_X4_scaleBy : yX4_scaleBy.cls ≠ "java/lang/invoke/MethodHandle" ∧ yX4_scaleBy.cls ≠ "java/lang/invoke/VarHandle" ∧ (parseMethodDescriptor yX4_scaleBy.desc).map (fun d => d.parameters.length) = some 1 := by decide +kernel
set_option maxRecDepth 100000 in
set_option maxHeartbeats 4000000 in
theorem c_X4_scaleBy (l : Launch) (D : va_G) (ct : Nat → ClassId) (ad : Nat → Nat → Nat) (L : List (Nat × Nat)) (φ : Nat → Nat → Nat → Bool) (N0 : Nat) (σ : St) (j0 : Nat) (x1 : Int) (Q : Int → St → Prop) (hw : wp_X4_scaleBy σ j0 x1 Q) : Met l yX4_scaleBy (.code yX4_scaleBy cX4_scaleBy 3 (some .int) :: gw) ({ frames := 1, cells := 0, slots := 0, locals := 21 } : Room) (Pm D ct ad L φ N0 σ [.ref (ad 4 j0), .int (iv x1)]) (Qi D ct ad L φ N0 Q) 0 0 (AA N0) := by
  refine m_of (by decide) (fun p e s m below meth c X hnm h => ?_)
  have hF := X.2.2.2.2.2.2.2.2.1
  have hl := lv_entry ([.ref (ad 4 j0), .int (iv x1)]) (n := 3) (Nat.le_of_ble_eq_true rfl)
  rw [lg_entry_eq]
  generalize (lg_sl ([.ref (ad 4 j0), .int (iv x1)]) ++ List.replicate (3 - (lg_sl ([.ref (ad 4 j0), .int (iv x1)])).length) Slot.unset).toArray = ls at hl ⊢
  have hl : lv_has ls 3 [(0, .ref (ad 4 j0)), (1, .int (iv x1))] := hl
  have h : Hs D ct ad L φ N0 s.heap σ s.heap [] := h
  unfold wp_X4_scaleBy at hw
  refine lv_iload_n X.1 X.2.1 dX4_scaleBy_0 rfl (lv_at hl 1 rfl) ?_
  refine j_iconst X dX4_scaleBy_1 ?_
  obtain ⟨g_1, hwt, hwf⟩ := hw
  refine j_cmp_ne (tgt := 23) X g_1 ⟨by decide, by decide⟩ dX4_scaleBy_2 (by decide) (fun c_11 => ?_) (fun c_11 => ?_)
  · have hw := hwt c_11
    refine j_iconst X dX4_scaleBy_23 ?_
    refine lv_aload_n X.1 X.2.1 dX4_scaleBy_24 rfl (lv_at hl 0 rfl) ?_
    obtain ⟨g_2, hw⟩ := hw
    refine r_get (ci := 4) X inw_4 h (h.2.2.1 j0 g_2).1 rfl rfl 2 (by decide) kw_709 rfl dX4_scaleBy_25 ?_
    refine j_iconst X dX4_scaleBy_28 ?_
    refine j_isub X dX4_scaleBy_29 ?_
    refine k_i h (r_S (As := [.int (iv 0), .int (iv ((σ 4 j0 2) - 4))]) (rest := []) X h (c_J9_max_7cf53 l D ct ad L φ N0 σ 0 ((σ 4 j0 2) - 4) _ hw) rfl rfl ⟨Nat.le_of_ble_eq_true rfl, Nat.le_of_ble_eq_true rfl⟩ kw_784 kw_619 kw_130 kw_620 pd_J9_max_7cf53 rfl hl.1 rfl (Nat.le_of_ble_eq_true rfl) ⟨Nat.le_of_ble_eq_true rfl, Nat.le_of_ble_eq_true rfl⟩ dX4_scaleBy_30) (fun r_4 σ_3 H locs hw h => ?_)
    refine lv_istore_n (lv' := [(2, .int (iv r_4)), (0, .ref (ad 4 j0)), (1, .int (iv x1))]) X.1 X.2.1 dX4_scaleBy_33 rfl hl (by decide) rfl (fun ls hl => ?_)
    refine lv_iload_n X.1 X.2.1 dX4_scaleBy_34 rfl (lv_at hl 0 rfl) ?_
    refine lv_iload_n X.1 X.2.1 dX4_scaleBy_35 rfl (lv_at hl 0 rfl) ?_
    refine j_imul X dX4_scaleBy_36 ?_
    refine lv_aload_n X.1 X.2.1 dX4_scaleBy_37 rfl (lv_at hl 1 rfl) ?_
    obtain ⟨g_5, hw⟩ := hw
    refine r_get (ci := 4) X inw_4 h (h.2.2.1 j0 g_5).1 rfl rfl 1 (by decide) kw_707 rfl dX4_scaleBy_38 ?_
    refine j_imul X dX4_scaleBy_41 ?_
    refine j_bipush X dX4_scaleBy_42 (by decide) ?_
    obtain ⟨g_6, hw⟩ := hw
    refine j_idiv X g_6 ⟨by decide, by decide⟩ (by decide) (by decide) dX4_scaleBy_44 ?_
    exact k_ir X rfl h hw dX4_scaleBy_45
  · have hw := hwf c_11
    refine lv_aload_n X.1 X.2.1 dX4_scaleBy_5 rfl (lv_at hl 0 rfl) ?_
    obtain ⟨g_7, hw⟩ := hw
    refine r_get (ci := 4) X inw_4 h (h.2.2.1 j0 g_7).1 rfl rfl 2 (by decide) kw_709 rfl dX4_scaleBy_6 ?_
    refine lv_aload_n X.1 X.2.1 dX4_scaleBy_9 rfl (lv_at hl 0 rfl) ?_
    obtain ⟨g_8, hw⟩ := hw
    refine r_get (ci := 4) X inw_4 h (h.2.2.1 j0 g_8).1 rfl rfl 2 (by decide) kw_709 rfl dX4_scaleBy_10 ?_
    refine j_imul X dX4_scaleBy_13 ?_
    refine lv_aload_n X.1 X.2.1 dX4_scaleBy_14 rfl (lv_at hl 0 rfl) ?_
    obtain ⟨g_9, hw⟩ := hw
    refine r_get (ci := 4) X inw_4 h (h.2.2.1 j0 g_9).1 rfl rfl 1 (by decide) kw_707 rfl dX4_scaleBy_15 ?_
    refine j_imul X dX4_scaleBy_18 ?_
    refine j_bipush X dX4_scaleBy_19 (by decide) ?_
    obtain ⟨g_10, hw⟩ := hw
    refine j_idiv X g_10 ⟨by decide, by decide⟩ (by decide) (by decide) dX4_scaleBy_21 ?_
    exact k_ir X rfl h hw dX4_scaleBy_22
end
section
variable {p : Program} {l : Launch} {e : Env} {s : State} {m : MethodId} {args : Array Value} {below : List Frame} {meth : Method} {c : Code} {D : va_G} {ct : Nat → ClassId} {ad : Nat → Nat → Nat} {L : List (Nat × Nat)} {φ : Nat → Nat → Nat → Bool} {N0 : Nat}
variable {Q : Int → St → Prop}
theorem pd_X4_liesIn : yX4_liesIn.cls ≠ "java/lang/invoke/MethodHandle" ∧ yX4_liesIn.cls ≠ "java/lang/invoke/VarHandle" ∧ (parseMethodDescriptor yX4_liesIn.desc).map (fun d => d.parameters.length) = some 1 := by decide +kernel
set_option maxRecDepth 100000 in
set_option maxHeartbeats 4000000 in
theorem c_X4_liesIn (l : Launch) (D : va_G) (ct : Nat → ClassId) (ad : Nat → Nat → Nat) (L : List (Nat × Nat)) (φ : Nat → Nat → Nat → Bool) (N0 : Nat) (σ : St) (j0 : Nat) (x1 : Int) (Q : Int → St → Prop) (hw : wp_X4_liesIn σ j0 x1 Q) : Met l yX4_liesIn (.code yX4_liesIn cX4_liesIn 2 (some .boolean) :: gw) ({ frames := 0, cells := 0, slots := 0, locals := 0 } : Room) (Pm D ct ad L φ N0 σ [.ref (ad 4 j0), .int (iv x1)]) (Qi D ct ad L φ N0 Q) 0 0 (AA N0) := by
  refine m_of (by decide) (fun p e s m below meth c X hnm h => ?_)
  have hF := X.2.2.2.2.2.2.2.2.1
  have hl := lv_entry ([.ref (ad 4 j0), .int (iv x1)]) (n := 2) (Nat.le_of_ble_eq_true rfl)
  rw [lg_entry_eq]
  generalize (lg_sl ([.ref (ad 4 j0), .int (iv x1)]) ++ List.replicate (2 - (lg_sl ([.ref (ad 4 j0), .int (iv x1)])).length) Slot.unset).toArray = ls at hl ⊢
  have hl : lv_has ls 2 [(0, .ref (ad 4 j0)), (1, .int (iv x1))] := hl
  have h : Hs D ct ad L φ N0 s.heap σ s.heap [] := h
  unfold wp_X4_liesIn at hw
  refine lv_aload_n X.1 X.2.1 dX4_liesIn_0 rfl (lv_at hl 0 rfl) ?_
  obtain ⟨g_1, hw⟩ := hw
  refine r_get (ci := 4) X inw_4 h (h.2.2.1 j0 g_1).1 rfl rfl 8 (by decide) kw_720 rfl dX4_liesIn_1 ?_
  obtain ⟨g_2, hwt, hwf⟩ := hw
  refine j_if_ne (tgt := 19) X g_2 dX4_liesIn_4 (by decide) (fun c_7 => ?_) (fun c_7 => ?_)
  · have hw := hwt c_7
    refine j_iconst X dX4_liesIn_19 ?_
    exact k_ir X rfl h hw dX4_liesIn_20
  · have hw := hwf c_7
    refine lv_aload_n X.1 X.2.1 dX4_liesIn_7 rfl (lv_at hl 0 rfl) ?_
    obtain ⟨g_3, hw⟩ := hw
    refine r_get (ci := 4) X inw_4 h (h.2.2.1 j0 g_3).1 rfl rfl 5 (by decide) kw_715 rfl dX4_liesIn_8 ?_
    refine lv_iload_n X.1 X.2.1 dX4_liesIn_11 rfl (lv_at hl 1 rfl) ?_
    obtain ⟨g_4, g_5, hwt, hwf⟩ := hw
    refine j_cmp_ne (tgt := 19) X g_4 g_5 dX4_liesIn_12 (by decide) (fun c_6 => ?_) (fun c_6 => ?_)
    · have hw := hwt c_6
      refine j_iconst X dX4_liesIn_19 ?_
      exact k_ir X rfl h hw dX4_liesIn_20
    · have hw := hwf c_6
      refine j_iconst X dX4_liesIn_15 ?_
      refine lv_goto (tgt := 20) X.1 X.2.1 dX4_liesIn_16 (by decide) ?_
      exact k_ir X rfl h hw dX4_liesIn_20
end
section
variable {p : Program} {l : Launch} {e : Env} {s : State} {m : MethodId} {args : Array Value} {below : List Frame} {meth : Method} {c : Code} {D : va_G} {ct : Nat → ClassId} {ad : Nat → Nat → Nat} {L : List (Nat × Nat)} {φ : Nat → Nat → Nat → Bool} {N0 : Nat}
variable {Q : Int → St → Prop}
theorem pd_X4_waitsIn : yX4_waitsIn.cls ≠ "java/lang/invoke/MethodHandle" ∧ yX4_waitsIn.cls ≠ "java/lang/invoke/VarHandle" ∧ (parseMethodDescriptor yX4_waitsIn.desc).map (fun d => d.parameters.length) = some 2 := by decide +kernel
set_option maxRecDepth 100000 in
set_option maxHeartbeats 4000000 in
theorem c_X4_waitsIn (l : Launch) (D : va_G) (ct : Nat → ClassId) (ad : Nat → Nat → Nat) (L : List (Nat × Nat)) (φ : Nat → Nat → Nat → Bool) (N0 : Nat) (σ : St) (j0 : Nat) (x1 : Int) (x2 : Int) (Q : Int → St → Prop) (hw : wp_X4_waitsIn σ j0 x1 x2 Q) : Met l yX4_waitsIn (.code yX4_waitsIn cX4_waitsIn 3 (some .boolean) :: gw) ({ frames := 1, cells := 0, slots := 0, locals := 21 } : Room) (Pm D ct ad L φ N0 σ [.ref (ad 4 j0), .int (iv x1), .int (iv x2)]) (Qi D ct ad L φ N0 Q) 0 0 (AA N0) := by
  refine m_of (by decide) (fun p e s m below meth c X hnm h => ?_)
  have hF := X.2.2.2.2.2.2.2.2.1
  have hl := lv_entry ([.ref (ad 4 j0), .int (iv x1), .int (iv x2)]) (n := 3) (Nat.le_of_ble_eq_true rfl)
  rw [lg_entry_eq]
  generalize (lg_sl ([.ref (ad 4 j0), .int (iv x1), .int (iv x2)]) ++ List.replicate (3 - (lg_sl ([.ref (ad 4 j0), .int (iv x1), .int (iv x2)])).length) Slot.unset).toArray = ls at hl ⊢
  have hl : lv_has ls 3 [(0, .ref (ad 4 j0)), (1, .int (iv x1)), (2, .int (iv x2))] := hl
  have h : Hs D ct ad L φ N0 s.heap σ s.heap [] := h
  unfold wp_X4_waitsIn at hw
  refine lv_aload_n X.1 X.2.1 dX4_waitsIn_0 rfl (lv_at hl 0 rfl) ?_
  refine lv_iload_n X.1 X.2.1 dX4_waitsIn_1 rfl (lv_at hl 1 rfl) ?_
  obtain ⟨g_1, hw⟩ := hw
  refine k_i h (r_V (C := RX4) (ci := 4) (As := [.int (iv x1)]) (rest := []) X h (c_X4_liesIn l D ct ad L φ N0 σ j0 x1 _ hw) rfl rfl ⟨Nat.le_of_ble_eq_true rfl, Nat.le_of_ble_eq_true rfl⟩ kw_890 kw_891 kw_892 kw_131 kw_893 ⟨rfl, pd_X4_liesIn⟩ (h.2.2.1 j0 g_1).1 rfl rfl rfl hl.1 rfl (Nat.le_of_ble_eq_true rfl) ⟨Nat.le_of_ble_eq_true rfl, Nat.le_of_ble_eq_true rfl⟩ dX4_waitsIn_2) (fun r_3 σ_2 H locs hw h => ?_)
  obtain ⟨g_4, hwt, hwf⟩ := hw
  refine j_if_eq (tgt := 20) X g_4 dX4_waitsIn_5 (by decide) (fun c_9 => ?_) (fun c_9 => ?_)
  · have hw := hwt c_9
    refine j_iconst X dX4_waitsIn_20 ?_
    exact k_ir X rfl h hw dX4_waitsIn_21
  · have hw := hwf c_9
    refine lv_aload_n X.1 X.2.1 dX4_waitsIn_8 rfl (lv_at hl 0 rfl) ?_
    obtain ⟨g_5, hw⟩ := hw
    refine r_get (ci := 4) X inw_4 h (h.2.2.1 j0 g_5).1 rfl rfl 7 (by decide) kw_718 rfl dX4_waitsIn_9 ?_
    refine lv_iload_n X.1 X.2.1 dX4_waitsIn_12 rfl (lv_at hl 2 rfl) ?_
    obtain ⟨g_6, g_7, hwt, hwf⟩ := hw
    refine j_cmp_ge (tgt := 20) X g_6 g_7 dX4_waitsIn_13 (by decide) (fun c_8 => ?_) (fun c_8 => ?_)
    · have hw := hwt c_8
      refine j_iconst X dX4_waitsIn_20 ?_
      exact k_ir X rfl h hw dX4_waitsIn_21
    · have hw := hwf c_8
      refine j_iconst X dX4_waitsIn_16 ?_
      refine lv_goto (tgt := 21) X.1 X.2.1 dX4_waitsIn_17 (by decide) ?_
      exact k_ir X rfl h hw dX4_waitsIn_21
end
section
variable {p : Program} {l : Launch} {e : Env} {s : State} {m : MethodId} {args : Array Value} {below : List Frame} {meth : Method} {c : Code} {D : va_G} {ct : Nat → ClassId} {ad : Nat → Nat → Nat} {L : List (Nat × Nat)} {φ : Nat → Nat → Nat → Bool} {N0 : Nat}
variable {Q : St → Prop}
theorem pd_X4_change : yX4_change.cls ≠ "java/lang/invoke/MethodHandle" ∧ yX4_change.cls ≠ "java/lang/invoke/VarHandle" ∧ (parseMethodDescriptor yX4_change.desc).map (fun d => d.parameters.length) = some 3 := by decide +kernel
set_option maxRecDepth 100000 in
set_option maxHeartbeats 4000000 in
theorem c_X4_change (l : Launch) (D : va_G) (ct : Nat → ClassId) (ad : Nat → Nat → Nat) (L : List (Nat × Nat)) (φ : Nat → Nat → Nat → Bool) (N0 : Nat) (σ : St) (j0 : Nat) (x1 : Int) (x2 : Int) (x3 : Int) (Q : St → Prop) (hw : wp_X4_change σ j0 x1 x2 x3 Q) : Met l yX4_change (.code yX4_change cX4_change 4 none :: gw) ({ frames := 0, cells := 0, slots := 0, locals := 0 } : Room) (Pm D ct ad L φ N0 σ [.ref (ad 4 j0), .int (iv x1), .int (iv x2), .int (iv x3)]) (Qv D ct ad L φ N0 Q) 0 0 (AA N0) := by
  refine m_of (by decide) (fun p e s m below meth c X hnm h => ?_)
  have hF := X.2.2.2.2.2.2.2.2.1
  have hl := lv_entry ([.ref (ad 4 j0), .int (iv x1), .int (iv x2), .int (iv x3)]) (n := 4) (Nat.le_of_ble_eq_true rfl)
  rw [lg_entry_eq]
  generalize (lg_sl ([.ref (ad 4 j0), .int (iv x1), .int (iv x2), .int (iv x3)]) ++ List.replicate (4 - (lg_sl ([.ref (ad 4 j0), .int (iv x1), .int (iv x2), .int (iv x3)])).length) Slot.unset).toArray = ls at hl ⊢
  have hl : lv_has ls 4 [(0, .ref (ad 4 j0)), (1, .int (iv x1)), (2, .int (iv x2)), (3, .int (iv x3))] := hl
  have h : Hs D ct ad L φ N0 s.heap σ s.heap [] := h
  unfold wp_X4_change at hw
  refine lv_aload_n X.1 X.2.1 dX4_change_0 rfl (lv_at hl 0 rfl) ?_
  refine lv_iload_n X.1 X.2.1 dX4_change_1 rfl (lv_at hl 1 rfl) ?_
  obtain ⟨g_1, hw⟩ := hw
  refine r_put (ci := 4) X inw_4 tyX4 tyX4_ok nmX4 h (h.2.2.1 j0 g_1).1 rfl rfl 8 (by decide) kw_720 rfl rfl rfl (Nat.le_of_ble_eq_true rfl) rfl rfl dX4_change_2 (fun H locs h => ?_)
  obtain ⟨σ_2, eσ_2⟩ : ∃ z : St, z = st σ 4 j0 8 x1 := ⟨_, rfl⟩
  rw [← eσ_2] at h
  have hw := hw σ_2 eσ_2
  refine lv_aload_n X.1 X.2.1 dX4_change_5 rfl (lv_at hl 0 rfl) ?_
  obtain ⟨g_3, hw⟩ := hw
  refine r_get (ci := 4) X inw_4 h (h.2.2.1 j0 g_3).1 rfl rfl 9 (by decide) kw_722 rfl dX4_change_6 ?_
  refine j_iconst X dX4_change_9 ?_
  obtain ⟨g_4, hwt, hwf⟩ := hw
  refine j_cmp_ge (tgt := 53) X g_4 ⟨by decide, by decide⟩ dX4_change_10 (by decide) (fun c_26 => ?_) (fun c_26 => ?_)
  · have hw := hwt c_26
    exact k_vr X h hw dX4_change_53
  · have hw := hwf c_26
    refine lv_aload_n X.1 X.2.1 dX4_change_13 rfl (lv_at hl 0 rfl) ?_
    obtain ⟨g_5, hw⟩ := hw
    refine r_getR (ci := 4) X inw_4 h (h.2.2.1 j0 g_5).1 rfl rfl 10 (by decide) kw_723 rfl ((h.2.2.1 j0 g_5).2.2.2.2.2 10) dX4_change_14 ?_
    refine lv_aload_n X.1 X.2.1 dX4_change_17 rfl (lv_at hl 0 rfl) ?_
    obtain ⟨g_6, hw⟩ := hw
    refine r_get (ci := 4) X inw_4 h (h.2.2.1 j0 g_6).1 rfl rfl 9 (by decide) kw_722 rfl dX4_change_18 ?_
    refine lv_iload_n X.1 X.2.1 dX4_change_21 rfl (lv_at hl 1 rfl) ?_
    obtain ⟨g_7, g_8, g_9, hw⟩ := hw
    refine r_iast (n := 4) X h (h.2.2.1 j0 g_7).2.1 (fun _ => rfl) (by decide) g_8 g_9 rfl dX4_change_22 (fun H locs h => ?_)
    obtain ⟨σ_10, eσ_10⟩ : ∃ z : St, z = st σ_2 35 j0 (Int.toNat (σ_2 4 j0 9)) x1 := ⟨_, rfl⟩
    rw [← eσ_10] at h
    have hw := hw σ_10 eσ_10
    refine lv_aload_n X.1 X.2.1 dX4_change_23 rfl (lv_at hl 0 rfl) ?_
    obtain ⟨g_11, hw⟩ := hw
    refine r_getR (ci := 4) X inw_4 h (h.2.2.1 j0 g_11).1 rfl rfl 11 (by decide) kw_724 rfl ((h.2.2.1 j0 g_11).2.2.2.2.2 11) dX4_change_24 ?_
    refine lv_aload_n X.1 X.2.1 dX4_change_27 rfl (lv_at hl 0 rfl) ?_
    obtain ⟨g_12, hw⟩ := hw
    refine r_get (ci := 4) X inw_4 h (h.2.2.1 j0 g_12).1 rfl rfl 9 (by decide) kw_722 rfl dX4_change_28 ?_
    refine lv_iload_n X.1 X.2.1 dX4_change_31 rfl (lv_at hl 2 rfl) ?_
    obtain ⟨g_13, g_14, g_15, hw⟩ := hw
    refine r_iast (n := 4) X h (h.2.2.1 j0 g_13).2.2.1 (fun _ => rfl) (by decide) g_14 g_15 rfl dX4_change_32 (fun H locs h => ?_)
    obtain ⟨σ_16, eσ_16⟩ : ∃ z : St, z = st σ_10 36 j0 (Int.toNat (σ_10 4 j0 9)) x2 := ⟨_, rfl⟩
    rw [← eσ_16] at h
    have hw := hw σ_16 eσ_16
    refine lv_aload_n X.1 X.2.1 dX4_change_33 rfl (lv_at hl 0 rfl) ?_
    obtain ⟨g_17, hw⟩ := hw
    refine r_getR (ci := 4) X inw_4 h (h.2.2.1 j0 g_17).1 rfl rfl 12 (by decide) kw_725 rfl ((h.2.2.1 j0 g_17).2.2.2.2.2 12) dX4_change_34 ?_
    refine lv_aload_n X.1 X.2.1 dX4_change_37 rfl (lv_at hl 0 rfl) ?_
    obtain ⟨g_18, hw⟩ := hw
    refine r_get (ci := 4) X inw_4 h (h.2.2.1 j0 g_18).1 rfl rfl 9 (by decide) kw_722 rfl dX4_change_38 ?_
    refine lv_iload_n X.1 X.2.1 dX4_change_41 rfl (lv_at hl 3 rfl) ?_
    obtain ⟨g_19, g_20, g_21, hw⟩ := hw
    refine r_iast (n := 4) X h (h.2.2.1 j0 g_19).2.2.2.1 (fun _ => rfl) (by decide) g_20 g_21 rfl dX4_change_42 (fun H locs h => ?_)
    obtain ⟨σ_22, eσ_22⟩ : ∃ z : St, z = st σ_16 37 j0 (Int.toNat (σ_16 4 j0 9)) x3 := ⟨_, rfl⟩
    rw [← eσ_22] at h
    have hw := hw σ_22 eσ_22
    refine lv_aload_n X.1 X.2.1 dX4_change_43 rfl (lv_at hl 0 rfl) ?_
    refine lv_dup X.1 X.2.1 dX4_change_44 rfl ?_
    obtain ⟨g_23, hw⟩ := hw
    refine r_get (ci := 4) X inw_4 h (h.2.2.1 j0 g_23).1 rfl rfl 9 (by decide) kw_722 rfl dX4_change_45 ?_
    refine j_iconst X dX4_change_48 ?_
    refine j_iadd X dX4_change_49 ?_
    obtain ⟨g_24, hw⟩ := hw
    refine r_put (ci := 4) X inw_4 tyX4 tyX4_ok nmX4 h (h.2.2.1 j0 g_24).1 rfl rfl 9 (by decide) kw_722 rfl rfl rfl (Nat.le_of_ble_eq_true rfl) rfl rfl dX4_change_50 (fun H locs h => ?_)
    obtain ⟨σ_25, eσ_25⟩ : ∃ z : St, z = st σ_22 4 j0 9 ((σ_22 4 j0 9) + 1) := ⟨_, rfl⟩
    rw [← eσ_25] at h
    have hw := hw σ_25 eσ_25
    exact k_vr X h hw dX4_change_53
end
section
variable {p : Program} {l : Launch} {e : Env} {s : State} {m : MethodId} {args : Array Value} {below : List Frame} {meth : Method} {c : Code} {D : va_G} {ct : Nat → ClassId} {ad : Nat → Nat → Nat} {L : List (Nat × Nat)} {φ : Nat → Nat → Nat → Bool} {N0 : Nat}
variable {Q : Int → St → Prop}
set_option maxRecDepth 100000 in
set_option maxHeartbeats 4000000 in
theorem lb_X4_knownAs_38 (X : Cx p s m meth c args cX4_knownAs 4 (some .int) RX4 D ct L φ N0) {K7 : St → Nat → Int → Int → Int → Prop} {K31 : St → Nat → Int → Prop} (hK7 : ∀ (σ : St) (j0 : Nat) (x1 : Int) (x2 : Int) (x3 : Int) (H : Heap) (locs : List Loc) (ls : Array Slot), K7 σ j0 x1 x2 x3 → Hs D ct ad L φ N0 s.heap σ H locs → lv_has ls 4 [(0, .ref (ad 4 j0)), (1, .int (iv x1)), (2, .int (iv x2)), (3, .int (iv x3))] → W p l e ({ frames := 0, cells := 0, slots := 0, locals := 0 } : Room) s m args below meth c H locs 0 0 (MQ below (Qi D ct ad L φ N0 Q) args s 0 0 (AA N0)) (F0 m 7 ls [])) (hK31 : ∀ (σ : St) (j0 : Nat) (x3 : Int) (H : Heap) (locs : List Loc) (ls : Array Slot), K31 σ j0 x3 → Hs D ct ad L φ N0 s.heap σ H locs → lv_has ls 4 [(0, .ref (ad 4 j0)), (3, .int (iv x3))] → W p l e ({ frames := 0, cells := 0, slots := 0, locals := 0 } : Room) s m args below meth c H locs 0 0 (MQ below (Qi D ct ad L φ N0 Q) args s 0 0 (AA N0)) (F0 m 31 ls [])) (σ : St) (j0 : Nat) (x1 : Int) (x2 : Int) (x3 : Int) (H : Heap) (locs : List Loc) (ls : Array Slot) (hw : wp_X4_knownAs_38 K7 K31 Q σ j0 x1 x2 x3) (h : Hs D ct ad L φ N0 s.heap σ H locs) (hl : lv_has ls 4 [(0, .ref (ad 4 j0)), (1, .int (iv x1)), (2, .int (iv x2)), (3, .int (iv x3))]) : W p l e ({ frames := 0, cells := 0, slots := 0, locals := 0 } : Room) s m args below meth c H locs 0 0 (MQ below (Qi D ct ad L φ N0 Q) args s 0 0 (AA N0)) (F0 m 38 ls []) := by
  have hF := X.2.2.2.2.2.2.2.2.1
  unfold wp_X4_knownAs_38 at hw
  refine j_iinc (kk9 := 3) (lv' := [(3, .int (iv (x3 + (-1)))), (0, .ref (ad 4 j0)), (1, .int (iv x1)), (2, .int (iv x2))]) X dX4_knownAs_38 hl rfl (by decide) rfl (fun ls hl => ?_)
  refine lv_goto (tgt := 7) X.1 X.2.1 dX4_knownAs_41 (by decide) ?_
  exact hK7 σ j0 x1 x2 (x3 + (-1)) _ _ _ hw h (lv_sub hl [1, 2, 3, 0] rfl)
set_option maxRecDepth 100000 in
set_option maxHeartbeats 4000000 in
theorem lb_X4_knownAs_31 (X : Cx p s m meth c args cX4_knownAs 4 (some .int) RX4 D ct L φ N0) (σ : St) (j0 : Nat) (x3 : Int) (H : Heap) (locs : List Loc) (ls : Array Slot) (hw : wp_X4_knownAs_31 Q σ j0 x3) (h : Hs D ct ad L φ N0 s.heap σ H locs) (hl : lv_has ls 4 [(0, .ref (ad 4 j0)), (3, .int (iv x3))]) : W p l e ({ frames := 0, cells := 0, slots := 0, locals := 0 } : Room) s m args below meth c H locs 0 0 (MQ below (Qi D ct ad L φ N0 Q) args s 0 0 (AA N0)) (F0 m 31 ls []) := by
  have hF := X.2.2.2.2.2.2.2.2.1
  unfold wp_X4_knownAs_31 at hw
  refine lv_aload_n X.1 X.2.1 dX4_knownAs_31 rfl (lv_at hl 0 rfl) ?_
  obtain ⟨g_1, hw⟩ := hw
  refine r_getR (ci := 4) X inw_4 h (h.2.2.1 j0 g_1).1 rfl rfl 10 (by decide) kw_723 rfl ((h.2.2.1 j0 g_1).2.2.2.2.2 10) dX4_knownAs_32 ?_
  refine lv_iload_n X.1 X.2.1 dX4_knownAs_35 rfl (lv_at hl 1 rfl) ?_
  obtain ⟨g_2, g_3, g_4, hw⟩ := hw
  refine r_iald (n := 4) X h (h.2.2.1 j0 g_2).2.1 rfl (by decide) g_3 g_4 dX4_knownAs_36 ?_
  exact k_ir X rfl h hw dX4_knownAs_37
set_option maxRecDepth 100000 in
set_option maxHeartbeats 4000000 in
theorem lb_X4_knownAs_7 (X : Cx p s m meth c args cX4_knownAs 4 (some .int) RX4 D ct L φ N0) {K31 : St → Nat → Int → Prop} (hK31 : ∀ (σ : St) (j0 : Nat) (x3 : Int) (H : Heap) (locs : List Loc) (ls : Array Slot), K31 σ j0 x3 → Hs D ct ad L φ N0 s.heap σ H locs → lv_has ls 4 [(0, .ref (ad 4 j0)), (3, .int (iv x3))] → W p l e ({ frames := 0, cells := 0, slots := 0, locals := 0 } : Room) s m args below meth c H locs 0 0 (MQ below (Qi D ct ad L φ N0 Q) args s 0 0 (AA N0)) (F0 m 31 ls [])) : ∀ (n : Nat) (σ : St) (j0 : Nat) (x1 : Int) (x2 : Int) (x3 : Int) (H : Heap) (locs : List Loc) (ls : Array Slot), wp_X4_knownAs_7 K31 Q n σ j0 x1 x2 x3 → Hs D ct ad L φ N0 s.heap σ H locs → lv_has ls 4 [(0, .ref (ad 4 j0)), (1, .int (iv x1)), (2, .int (iv x2)), (3, .int (iv x3))] → W p l e ({ frames := 0, cells := 0, slots := 0, locals := 0 } : Room) s m args below meth c H locs 0 0 (MQ below (Qi D ct ad L φ N0 Q) args s 0 0 (AA N0)) (F0 m 7 ls []) := by
  have hF := X.2.2.2.2.2.2.2.2.1
  intro n
  induction n with
  | zero => intro σ j0 x1 x2 x3 H locs ls hw; exact hw.elim
  | succ n ih =>
    intro σ j0 x1 x2 x3 H locs ls hw h hl
    unfold wp_X4_knownAs_7 at hw
    refine lv_iload_n X.1 X.2.1 dX4_knownAs_7 rfl (lv_at hl 3 rfl) ?_
    obtain ⟨g_5, hwt, hwf⟩ := hw
    refine j_if_lt (tgt := 44) X g_5 dX4_knownAs_8 (by decide) (fun c_20 => ?_) (fun c_20 => ?_)
    · have hw := hwt c_20
      refine j_iconst X dX4_knownAs_44 ?_
      exact k_ir X rfl h hw dX4_knownAs_45
    · have hw := hwf c_20
      refine lv_aload_n X.1 X.2.1 dX4_knownAs_11 rfl (lv_at hl 0 rfl) ?_
      obtain ⟨g_6, hw⟩ := hw
      refine r_getR (ci := 4) X inw_4 h (h.2.2.1 j0 g_6).1 rfl rfl 11 (by decide) kw_724 rfl ((h.2.2.1 j0 g_6).2.2.2.2.2 11) dX4_knownAs_12 ?_
      refine lv_iload_n X.1 X.2.1 dX4_knownAs_15 rfl (lv_at hl 3 rfl) ?_
      obtain ⟨g_7, g_8, g_9, hw⟩ := hw
      refine r_iald (n := 4) X h (h.2.2.1 j0 g_7).2.2.1 rfl (by decide) g_8 g_9 dX4_knownAs_16 ?_
      refine lv_iload_n X.1 X.2.1 dX4_knownAs_17 rfl (lv_at hl 1 rfl) ?_
      obtain ⟨g_10, g_11, hwt, hwf⟩ := hw
      refine j_cmp_gt (tgt := 38) X g_10 g_11 dX4_knownAs_18 (by decide) (fun c_19 => ?_) (fun c_19 => ?_)
      · have hw := hwt c_19
        exact lb_X4_knownAs_38 X ih hK31 σ j0 x1 x2 x3 _ _ _ hw h (lv_sub hl [0, 1, 2, 3] rfl)
      · have hw := hwf c_19
        refine lv_aload_n X.1 X.2.1 dX4_knownAs_21 rfl (lv_at hl 0 rfl) ?_
        obtain ⟨g_12, hw⟩ := hw
        refine r_getR (ci := 4) X inw_4 h (h.2.2.1 j0 g_12).1 rfl rfl 12 (by decide) kw_725 rfl ((h.2.2.1 j0 g_12).2.2.2.2.2 12) dX4_knownAs_22 ?_
        refine lv_iload_n X.1 X.2.1 dX4_knownAs_25 rfl (lv_at hl 3 rfl) ?_
        obtain ⟨g_13, g_14, g_15, hw⟩ := hw
        refine r_iald (n := 4) X h (h.2.2.1 j0 g_13).2.2.2.1 rfl (by decide) g_14 g_15 dX4_knownAs_26 ?_
        refine lv_iload_n X.1 X.2.1 dX4_knownAs_27 rfl (lv_at hl 2 rfl) ?_
        obtain ⟨g_16, g_17, hwt, hwf⟩ := hw
        refine j_cmp_gt (tgt := 38) X g_16 g_17 dX4_knownAs_28 (by decide) (fun c_18 => ?_) (fun c_18 => ?_)
        · have hw := hwt c_18
          exact lb_X4_knownAs_38 X ih hK31 σ j0 x1 x2 x3 _ _ _ hw h (lv_sub hl [0, 1, 2, 3] rfl)
        · have hw := hwf c_18
          exact hK31 σ j0 x3 _ _ _ hw h (lv_sub hl [0, 3] rfl)
theorem pd_X4_knownAs : yX4_knownAs.cls ≠ "java/lang/invoke/MethodHandle" ∧ yX4_knownAs.cls ≠ "java/lang/invoke/VarHandle" ∧ (parseMethodDescriptor yX4_knownAs.desc).map (fun d => d.parameters.length) = some 2 := by decide +kernel
set_option maxRecDepth 100000 in
set_option maxHeartbeats 4000000 in
theorem c_X4_knownAs (l : Launch) (D : va_G) (ct : Nat → ClassId) (ad : Nat → Nat → Nat) (L : List (Nat × Nat)) (φ : Nat → Nat → Nat → Bool) (N0 : Nat) (σ : St) (j0 : Nat) (x1 : Int) (x2 : Int) (Q : Int → St → Prop) (hw : wp_X4_knownAs σ j0 x1 x2 Q) : Met l yX4_knownAs (.code yX4_knownAs cX4_knownAs 4 (some .int) :: gw) ({ frames := 0, cells := 0, slots := 0, locals := 0 } : Room) (Pm D ct ad L φ N0 σ [.ref (ad 4 j0), .int (iv x1), .int (iv x2)]) (Qi D ct ad L φ N0 Q) 0 0 (AA N0) := by
  refine m_of (by decide) (fun p e s m below meth c X hnm h => ?_)
  have hF := X.2.2.2.2.2.2.2.2.1
  have hl := lv_entry ([.ref (ad 4 j0), .int (iv x1), .int (iv x2)]) (n := 4) (Nat.le_of_ble_eq_true rfl)
  rw [lg_entry_eq]
  generalize (lg_sl ([.ref (ad 4 j0), .int (iv x1), .int (iv x2)]) ++ List.replicate (4 - (lg_sl ([.ref (ad 4 j0), .int (iv x1), .int (iv x2)])).length) Slot.unset).toArray = ls at hl ⊢
  have hl : lv_has ls 4 [(0, .ref (ad 4 j0)), (1, .int (iv x1)), (2, .int (iv x2))] := hl
  have h : Hs D ct ad L φ N0 s.heap σ s.heap [] := h
  unfold wp_X4_knownAs at hw
  refine lv_aload_n X.1 X.2.1 dX4_knownAs_0 rfl (lv_at hl 0 rfl) ?_
  obtain ⟨g_21, hw⟩ := hw
  refine r_get (ci := 4) X inw_4 h (h.2.2.1 j0 g_21).1 rfl rfl 9 (by decide) kw_722 rfl dX4_knownAs_1 ?_
  refine j_iconst X dX4_knownAs_4 ?_
  refine j_isub X dX4_knownAs_5 ?_
  refine j_bind (fun v_22 ev_22 => ?_)
  have hw := hw v_22 ev_22
  refine lv_istore_n (lv' := [(3, .int (iv v_22)), (0, .ref (ad 4 j0)), (1, .int (iv x1)), (2, .int (iv x2))]) X.1 X.2.1 dX4_knownAs_6 rfl hl (by decide) rfl (fun ls hl => ?_)
  exact hw.elim (fun n7 hw => lb_X4_knownAs_7 X (lb_X4_knownAs_31 X) n7 σ j0 x1 x2 v_22 _ _ _ hw h (lv_sub hl [1, 2, 3, 0] rfl))
end
section
variable {p : Program} {l : Launch} {e : Env} {s : State} {m : MethodId} {args : Array Value} {below : List Frame} {meth : Method} {c : Code} {D : va_G} {ct : Nat → ClassId} {ad : Nat → Nat → Nat} {L : List (Nat × Nat)} {φ : Nat → Nat → Nat → Bool} {N0 : Nat}
variable {Q : Int → St → Prop}
theorem pd_X4_told : yX4_told.cls ≠ "java/lang/invoke/MethodHandle" ∧ yX4_told.cls ≠ "java/lang/invoke/VarHandle" ∧ (parseMethodDescriptor yX4_told.desc).map (fun d => d.parameters.length) = some 1 := by decide +kernel
set_option maxRecDepth 100000 in
set_option maxHeartbeats 4000000 in
theorem c_X4_told (l : Launch) (D : va_G) (ct : Nat → ClassId) (ad : Nat → Nat → Nat) (L : List (Nat × Nat)) (φ : Nat → Nat → Nat → Bool) (N0 : Nat) (σ : St) (j0 : Nat) (x1 : Int) (Q : Int → St → Prop) (hw : wp_X4_told σ j0 x1 Q) : Met l yX4_told (.code yX4_told cX4_told 2 (some .int) :: gw) ({ frames := 1, cells := 0, slots := 0, locals := 20 } : Room) (Pm D ct ad L φ N0 σ [.ref (ad 4 j0), .int (iv x1)]) (Qi D ct ad L φ N0 Q) 0 0 (AA N0) := by
  refine m_of (by decide) (fun p e s m below meth c X hnm h => ?_)
  have hF := X.2.2.2.2.2.2.2.2.1
  have hl := lv_entry ([.ref (ad 4 j0), .int (iv x1)]) (n := 2) (Nat.le_of_ble_eq_true rfl)
  rw [lg_entry_eq]
  generalize (lg_sl ([.ref (ad 4 j0), .int (iv x1)]) ++ List.replicate (2 - (lg_sl ([.ref (ad 4 j0), .int (iv x1)])).length) Slot.unset).toArray = ls at hl ⊢
  have hl : lv_has ls 2 [(0, .ref (ad 4 j0)), (1, .int (iv x1))] := hl
  have h : Hs D ct ad L φ N0 s.heap σ s.heap [] := h
  unfold wp_X4_told at hw
  refine lv_iload_n X.1 X.2.1 dX4_told_0 rfl (lv_at hl 1 rfl) ?_
  obtain ⟨g_1, hw0, hw1, hw2, hw3, hw4, hw5, hw6, hw7, hw8, hw9⟩ := hw
  by_cases c_13 : x1 = 0
  · have hw := hw0 c_13
    refine j_tin (v := 0) (tgt := 52) X g_1 c_13 dX4_told_1 (by decide) (by decide) rfl (by decide) ?_
    refine lv_aload_n X.1 X.2.1 dX4_told_52 rfl (lv_at hl 0 rfl) ?_
    obtain ⟨g_2, hw⟩ := hw
    refine r_get (ci := 4) X inw_4 h (h.2.2.1 j0 g_2).1 rfl rfl 5 (by decide) kw_715 rfl dX4_told_53 ?_
    exact k_ir X rfl h hw dX4_told_56
  by_cases c_14 : x1 = 1
  · have hw := hw1 c_14
    refine j_tin (v := 1) (tgt := 57) X g_1 c_14 dX4_told_1 (by decide) (by decide) rfl (by decide) ?_
    refine lv_aload_n X.1 X.2.1 dX4_told_57 rfl (lv_at hl 0 rfl) ?_
    obtain ⟨g_3, hw⟩ := hw
    refine r_get (ci := 4) X inw_4 h (h.2.2.1 j0 g_3).1 rfl rfl 0 (by decide) kw_706 rfl dX4_told_58 ?_
    exact k_ir X rfl h hw dX4_told_61
  by_cases c_15 : x1 = 2
  · have hw := hw2 c_15
    refine j_tin (v := 2) (tgt := 62) X g_1 c_15 dX4_told_1 (by decide) (by decide) rfl (by decide) ?_
    refine lv_aload_n X.1 X.2.1 dX4_told_62 rfl (lv_at hl 0 rfl) ?_
    obtain ⟨g_4, hw⟩ := hw
    refine r_get (ci := 4) X inw_4 h (h.2.2.1 j0 g_4).1 rfl rfl 1 (by decide) kw_707 rfl dX4_told_63 ?_
    exact k_ir X rfl h hw dX4_told_66
  by_cases c_16 : x1 = 3
  · have hw := hw3 c_16
    refine j_tin (v := 3) (tgt := 67) X g_1 c_16 dX4_told_1 (by decide) (by decide) rfl (by decide) ?_
    refine lv_aload_n X.1 X.2.1 dX4_told_67 rfl (lv_at hl 0 rfl) ?_
    obtain ⟨g_5, hw⟩ := hw
    refine r_get (ci := 4) X inw_4 h (h.2.2.1 j0 g_5).1 rfl rfl 2 (by decide) kw_709 rfl dX4_told_68 ?_
    exact k_ir X rfl h hw dX4_told_71
  by_cases c_17 : x1 = 4
  · have hw := hw4 c_17
    refine j_tin (v := 4) (tgt := 72) X g_1 c_17 dX4_told_1 (by decide) (by decide) rfl (by decide) ?_
    refine lv_aload_n X.1 X.2.1 dX4_told_72 rfl (lv_at hl 0 rfl) ?_
    obtain ⟨g_6, hw⟩ := hw
    refine r_get (ci := 4) X inw_4 h (h.2.2.1 j0 g_6).1 rfl rfl 6 (by decide) kw_717 rfl dX4_told_73 ?_
    exact k_ir X rfl h hw dX4_told_76
  by_cases c_18 : x1 = 5
  · have hw := hw5 c_18
    refine j_tin (v := 5) (tgt := 77) X g_1 c_18 dX4_told_1 (by decide) (by decide) rfl (by decide) ?_
    refine lv_aload_n X.1 X.2.1 dX4_told_77 rfl (lv_at hl 0 rfl) ?_
    obtain ⟨g_7, hw⟩ := hw
    refine r_get (ci := 4) X inw_4 h (h.2.2.1 j0 g_7).1 rfl rfl 3 (by decide) kw_712 rfl dX4_told_78 ?_
    exact k_ir X rfl h hw dX4_told_81
  by_cases c_19 : x1 = 6
  · have hw := hw6 c_19
    refine j_tin (v := 6) (tgt := 82) X g_1 c_19 dX4_told_1 (by decide) (by decide) rfl (by decide) ?_
    refine lv_aload_n X.1 X.2.1 dX4_told_82 rfl (lv_at hl 0 rfl) ?_
    obtain ⟨g_8, hw⟩ := hw
    refine r_get (ci := 4) X inw_4 h (h.2.2.1 j0 g_8).1 rfl rfl 8 (by decide) kw_720 rfl dX4_told_83 ?_
    exact k_ir X rfl h hw dX4_told_86
  by_cases c_20 : x1 = 7
  · have hw := hw7 c_20
    refine j_tin (v := 7) (tgt := 87) X g_1 c_20 dX4_told_1 (by decide) (by decide) rfl (by decide) ?_
    refine lv_aload_n X.1 X.2.1 dX4_told_87 rfl (lv_at hl 0 rfl) ?_
    obtain ⟨g_9, hw⟩ := hw
    refine k_i h (r_V (C := RX4) (ci := 4) (As := []) (rest := []) X h (c_X4_volume l D ct ad L φ N0 σ j0 _ hw) rfl rfl ⟨Nat.le_of_ble_eq_true rfl, Nat.le_of_ble_eq_true rfl⟩ kw_802 kw_803 kw_804 kw_131 kw_805 ⟨rfl, pd_X4_volume⟩ (h.2.2.1 j0 g_9).1 rfl rfl rfl hl.1 rfl (Nat.le_of_ble_eq_true rfl) ⟨Nat.le_of_ble_eq_true rfl, Nat.le_of_ble_eq_true rfl⟩ dX4_told_88) (fun r_11 σ_10 H locs hw h => ?_)
    exact k_ir X rfl h hw dX4_told_91
  by_cases c_21 : x1 = 8
  · have hw := hw8 c_21
    refine j_tin (v := 8) (tgt := 92) X g_1 c_21 dX4_told_1 (by decide) (by decide) rfl (by decide) ?_
    refine lv_aload_n X.1 X.2.1 dX4_told_92 rfl (lv_at hl 0 rfl) ?_
    obtain ⟨g_12, hw⟩ := hw
    refine r_get (ci := 4) X inw_4 h (h.2.2.1 j0 g_12).1 rfl rfl 4 (by decide) kw_713 rfl dX4_told_93 ?_
    exact k_ir X rfl h hw dX4_told_96
  have c_22 : x1 < 0 ∨ 8 < x1 := by omega
  have hw := hw9 c_22
  refine j_tout (tgt := 97) X g_1 c_22 dX4_told_1 (by decide) ?_
  refine j_iconst X dX4_told_97 ?_
  exact k_ir X rfl h hw dX4_told_98
end
section
variable {p : Program} {l : Launch} {e : Env} {s : State} {m : MethodId} {args : Array Value} {below : List Frame} {meth : Method} {c : Code} {D : va_G} {ct : Nat → ClassId} {ad : Nat → Nat → Nat} {L : List (Nat × Nat)} {φ : Nat → Nat → Nat → Bool} {N0 : Nat}
variable {Q : Int → St → Prop}
theorem pd_J9_floorMod_7cf53 : yJ9_floorMod_7cf53.cls ≠ "java/lang/invoke/MethodHandle" ∧ yJ9_floorMod_7cf53.cls ≠ "java/lang/invoke/VarHandle" ∧ (parseMethodDescriptor yJ9_floorMod_7cf53.desc).map (fun d => d.parameters.length) = some 2 := by decide +kernel
set_option maxRecDepth 100000 in
set_option maxHeartbeats 4000000 in
theorem c_J9_floorMod_7cf53 (l : Launch) (D : va_G) (ct : Nat → ClassId) (ad : Nat → Nat → Nat) (L : List (Nat × Nat)) (φ : Nat → Nat → Nat → Bool) (N0 : Nat) (σ : St) (x0 : Int) (x1 : Int) (Q : Int → St → Prop) (hw : wp_J9_floorMod_7cf53 σ x0 x1 Q) : Met l yJ9_floorMod_7cf53 (.code yJ9_floorMod_7cf53 cJ9_floorMod_7cf53 3 (some .int) :: gw) ({ frames := 0, cells := 0, slots := 0, locals := 0 } : Room) (Pm D ct ad L φ N0 σ [.int (iv x0), .int (iv x1)]) (Qi D ct ad L φ N0 Q) 0 0 (AA N0) := by
  refine m_ofF (by decide +kernel) (fun p e s m below meth c X hnm h => ?_)
  have hF := X.2.2.2.2.2.2.2.2.1
  have hl := lv_entry ([.int (iv x0), .int (iv x1)]) (n := 3) (Nat.le_of_ble_eq_true rfl)
  rw [lg_entry_eq]
  generalize (lg_sl ([.int (iv x0), .int (iv x1)]) ++ List.replicate (3 - (lg_sl ([.int (iv x0), .int (iv x1)])).length) Slot.unset).toArray = ls at hl ⊢
  have hl : lv_has ls 3 [(0, .int (iv x0)), (1, .int (iv x1))] := hl
  have h : Hs D ct ad L φ N0 s.heap σ s.heap [] := h
  unfold wp_J9_floorMod_7cf53 at hw
  refine lv_iload_n X.1 X.2.1 dJ9_floorMod_7cf53_0 rfl (lv_at hl 0 rfl) ?_
  refine lv_iload_n X.1 X.2.1 dJ9_floorMod_7cf53_1 rfl (lv_at hl 1 rfl) ?_
  obtain ⟨g_1, g_2, g_3, g_4, hw⟩ := hw
  refine j_irem X g_1 g_2 g_3 g_4 dJ9_floorMod_7cf53_2 ?_
  refine j_bind (fun v_5 ev_5 => ?_)
  have hw := hw v_5 ev_5
  refine lv_istore_n (lv' := [(2, .int (iv v_5)), (0, .int (iv x0)), (1, .int (iv x1))]) X.1 X.2.1 dJ9_floorMod_7cf53_3 rfl hl (by decide) rfl (fun ls hl => ?_)
  refine lv_iload_n X.1 X.2.1 dJ9_floorMod_7cf53_4 rfl (lv_at hl 1 rfl) ?_
  refine lv_iload_n X.1 X.2.1 dJ9_floorMod_7cf53_5 rfl (lv_at hl 2 rfl) ?_
  refine j_ixor X dJ9_floorMod_7cf53_6 ?_
  obtain ⟨g_6, hwt, hwf⟩ := hw
  refine j_if_ge (tgt := 18) X g_6 dJ9_floorMod_7cf53_7 (by decide) (fun c_9 => ?_) (fun c_9 => ?_)
  · have hw := hwt c_9
    refine lv_iload_n X.1 X.2.1 dJ9_floorMod_7cf53_18 rfl (lv_at hl 0 rfl) ?_
    exact k_ir X rfl h hw dJ9_floorMod_7cf53_19
  · have hw := hwf c_9
    refine lv_iload_n X.1 X.2.1 dJ9_floorMod_7cf53_10 rfl (lv_at hl 0 rfl) ?_
    obtain ⟨g_7, hwt, hwf⟩ := hw
    refine j_if_eq (tgt := 18) X g_7 dJ9_floorMod_7cf53_11 (by decide) (fun c_8 => ?_) (fun c_8 => ?_)
    · have hw := hwt c_8
      refine lv_iload_n X.1 X.2.1 dJ9_floorMod_7cf53_18 rfl (lv_at hl 0 rfl) ?_
      exact k_ir X rfl h hw dJ9_floorMod_7cf53_19
    · have hw := hwf c_8
      refine lv_iload_n X.1 X.2.1 dJ9_floorMod_7cf53_14 rfl (lv_at hl 0 rfl) ?_
      refine lv_iload_n X.1 X.2.1 dJ9_floorMod_7cf53_15 rfl (lv_at hl 2 rfl) ?_
      refine j_iadd X dJ9_floorMod_7cf53_16 ?_
      exact k_ir X rfl h hw dJ9_floorMod_7cf53_17
end
section
variable {p : Program} {l : Launch} {e : Env} {s : State} {m : MethodId} {args : Array Value} {below : List Frame} {meth : Method} {c : Code} {D : va_G} {ct : Nat → ClassId} {ad : Nat → Nat → Nat} {L : List (Nat × Nat)} {φ : Nat → Nat → Nat → Bool} {N0 : Nat}
variable {Q : Int → St → Prop}
theorem pd_X4_lackingOfAll : yX4_lackingOfAll.cls ≠ "java/lang/invoke/MethodHandle" ∧ yX4_lackingOfAll.cls ≠ "java/lang/invoke/VarHandle" ∧ (parseMethodDescriptor yX4_lackingOfAll.desc).map (fun d => d.parameters.length) = some 0 := by decide +kernel
set_option maxRecDepth 100000 in
set_option maxHeartbeats 4000000 in
theorem c_X4_lackingOfAll (l : Launch) (D : va_G) (ct : Nat → ClassId) (ad : Nat → Nat → Nat) (L : List (Nat × Nat)) (φ : Nat → Nat → Nat → Bool) (N0 : Nat) (σ : St) (j0 : Nat) (Q : Int → St → Prop) (hw : wp_X4_lackingOfAll σ j0 Q) : Met l yX4_lackingOfAll (.code yX4_lackingOfAll cX4_lackingOfAll 1 (some .int) :: gw) ({ frames := 1, cells := 0, slots := 0, locals := 23 } : Room) (Pm D ct ad L φ N0 σ [.ref (ad 4 j0)]) (Qi D ct ad L φ N0 Q) 0 0 (AA N0) := by
  refine m_of (by decide) (fun p e s m below meth c X hnm h => ?_)
  have hF := X.2.2.2.2.2.2.2.2.1
  have hl := lv_entry ([.ref (ad 4 j0)]) (n := 1) (Nat.le_of_ble_eq_true rfl)
  rw [lg_entry_eq]
  generalize (lg_sl ([.ref (ad 4 j0)]) ++ List.replicate (1 - (lg_sl ([.ref (ad 4 j0)])).length) Slot.unset).toArray = ls at hl ⊢
  have hl : lv_has ls 1 [(0, .ref (ad 4 j0))] := hl
  have h : Hs D ct ad L φ N0 s.heap σ s.heap [] := h
  unfold wp_X4_lackingOfAll at hw
  refine lv_aload_n X.1 X.2.1 dX4_lackingOfAll_0 rfl (lv_at hl 0 rfl) ?_
  obtain ⟨g_1, hw⟩ := hw
  refine r_get (ci := 4) X inw_4 h (h.2.2.1 j0 g_1).1 rfl rfl 14 (by decide) kw_728 rfl dX4_lackingOfAll_1 ?_
  refine lv_aload_n X.1 X.2.1 dX4_lackingOfAll_4 rfl (lv_at hl 0 rfl) ?_
  refine j_iconst X dX4_lackingOfAll_5 ?_
  obtain ⟨g_2, hw⟩ := hw
  refine k_i h (r_V (C := RX4) (ci := 4) (As := [.int (iv 0)]) (rest := [.int (iv (σ 4 j0 14))]) X h (c_X4_sumNow l D ct ad L φ N0 σ j0 0 _ hw) rfl rfl ⟨Nat.le_of_ble_eq_true rfl, Nat.le_of_ble_eq_true rfl⟩ kw_767 kw_769 kw_10 kw_131 kw_770 ⟨rfl, pd_X4_sumNow⟩ (h.2.2.1 j0 g_2).1 rfl rfl rfl hl.1 rfl (Nat.le_of_ble_eq_true rfl) ⟨Nat.le_of_ble_eq_true rfl, Nat.le_of_ble_eq_true rfl⟩ dX4_lackingOfAll_6) (fun r_4 σ_3 H locs hw h => ?_)
  refine j_isub X dX4_lackingOfAll_9 ?_
  refine j_ldc (n := 65537) X kw_771 (by decide) dX4_lackingOfAll_10 ?_
  refine k_i h (r_S (As := [.int (iv ((σ 4 j0 14) - r_4)), .int (iv 65537)]) (rest := []) X h (c_J9_floorMod_7cf53 l D ct ad L φ N0 σ_3 ((σ 4 j0 14) - r_4) 65537 _ hw) rfl rfl ⟨Nat.le_of_ble_eq_true rfl, Nat.le_of_ble_eq_true rfl⟩ kw_1510 kw_1511 kw_130 kw_1512 pd_J9_floorMod_7cf53 rfl hl.1 rfl (Nat.le_of_ble_eq_true rfl) ⟨Nat.le_of_ble_eq_true rfl, Nat.le_of_ble_eq_true rfl⟩ dX4_lackingOfAll_12) (fun r_6 σ_5 H locs hw h => ?_)
  exact k_ir X rfl h hw dX4_lackingOfAll_15
end
section
variable {p : Program} {l : Launch} {e : Env} {s : State} {m : MethodId} {args : Array Value} {below : List Frame} {meth : Method} {c : Code} {D : va_G} {ct : Nat → ClassId} {ad : Nat → Nat → Nat} {L : List (Nat × Nat)} {φ : Nat → Nat → Nat → Bool} {N0 : Nat}
variable {Q : Int → St → Prop}
theorem pd_X4_rightNumber : yX4_rightNumber.cls ≠ "java/lang/invoke/MethodHandle" ∧ yX4_rightNumber.cls ≠ "java/lang/invoke/VarHandle" ∧ (parseMethodDescriptor yX4_rightNumber.desc).map (fun d => d.parameters.length) = some 1 := by decide +kernel
set_option maxRecDepth 100000 in
set_option maxHeartbeats 4000000 in
theorem c_X4_rightNumber (l : Launch) (D : va_G) (ct : Nat → ClassId) (ad : Nat → Nat → Nat) (L : List (Nat × Nat)) (φ : Nat → Nat → Nat → Bool) (N0 : Nat) (σ : St) (j0 : Nat) (x1 : Int) (Q : Int → St → Prop) (hw : wp_X4_rightNumber σ j0 x1 Q) : Met l yX4_rightNumber (.code yX4_rightNumber cX4_rightNumber 2 (some .int) :: gw) ({ frames := 2, cells := 0, slots := 0, locals := 43 } : Room) (Pm D ct ad L φ N0 σ [.ref (ad 4 j0), .int (iv x1)]) (Qi D ct ad L φ N0 Q) 0 0 (AA N0) := by
  refine m_of (by decide) (fun p e s m below meth c X hnm h => ?_)
  have hF := X.2.2.2.2.2.2.2.2.1
  have hl := lv_entry ([.ref (ad 4 j0), .int (iv x1)]) (n := 2) (Nat.le_of_ble_eq_true rfl)
  rw [lg_entry_eq]
  generalize (lg_sl ([.ref (ad 4 j0), .int (iv x1)]) ++ List.replicate (2 - (lg_sl ([.ref (ad 4 j0), .int (iv x1)])).length) Slot.unset).toArray = ls at hl ⊢
  have hl : lv_has ls 2 [(0, .ref (ad 4 j0)), (1, .int (iv x1))] := hl
  have h : Hs D ct ad L φ N0 s.heap σ s.heap [] := h
  unfold wp_X4_rightNumber at hw
  refine lv_aload_n X.1 X.2.1 dX4_rightNumber_0 rfl (lv_at hl 0 rfl) ?_
  obtain ⟨g_1, hw⟩ := hw
  refine r_getR (ci := 4) X inw_4 h (h.2.2.1 j0 g_1).1 rfl rfl 13 (by decide) kw_726 rfl ((h.2.2.1 j0 g_1).2.2.2.2.2 13) dX4_rightNumber_1 ?_
  refine lv_iload_n X.1 X.2.1 dX4_rightNumber_4 rfl (lv_at hl 1 rfl) ?_
  obtain ⟨g_2, g_3, g_4, hw⟩ := hw
  refine r_iald (n := 5) X h (h.2.2.1 j0 g_2).2.2.2.2.1 rfl (by decide) g_3 g_4 dX4_rightNumber_5 ?_
  refine lv_aload_n X.1 X.2.1 dX4_rightNumber_6 rfl (lv_at hl 0 rfl) ?_
  obtain ⟨g_5, hw⟩ := hw
  refine k_i h (r_V (C := RX4) (ci := 4) (As := []) (rest := [.int (iv (σ 38 j0 (Int.toNat x1)))]) X h (c_X4_lackingOfAll l D ct ad L φ N0 σ j0 _ hw) rfl rfl ⟨Nat.le_of_ble_eq_true rfl, Nat.le_of_ble_eq_true rfl⟩ kw_1506 kw_1508 kw_59 kw_131 kw_1509 ⟨rfl, pd_X4_lackingOfAll⟩ (h.2.2.1 j0 g_5).1 rfl rfl rfl hl.1 rfl (Nat.le_of_ble_eq_true rfl) ⟨Nat.le_of_ble_eq_true rfl, Nat.le_of_ble_eq_true rfl⟩ dX4_rightNumber_7) (fun r_7 σ_6 H locs hw h => ?_)
  refine j_iadd X dX4_rightNumber_10 ?_
  refine j_ldc (n := 65537) X kw_771 (by decide) dX4_rightNumber_11 ?_
  obtain ⟨g_8, hw⟩ := hw
  refine j_irem X g_8 ⟨by decide, by decide⟩ (by decide) (by decide) dX4_rightNumber_13 ?_
  exact k_ir X rfl h hw dX4_rightNumber_14
end
section
variable {p : Program} {l : Launch} {e : Env} {s : State} {m : MethodId} {args : Array Value} {below : List Frame} {meth : Method} {c : Code} {D : va_G} {ct : Nat → ClassId} {ad : Nat → Nat → Nat} {L : List (Nat × Nat)} {φ : Nat → Nat → Nat → Bool} {N0 : Nat}
variable {Q : Int → St → Prop}
set_option maxRecDepth 100000 in
set_option maxHeartbeats 4000000 in
theorem lb_X4_faultyPlace_67 (X : Cx p s m meth c args cX4_faultyPlace 4 (some .int) RX4 D ct L φ N0) {K38 : St → Nat → Int → Int → Int → Prop} (hK38 : ∀ (σ : St) (j0 : Nat) (x1 : Int) (x2 : Int) (x3 : Int) (H : Heap) (locs : List Loc) (ls : Array Slot), K38 σ j0 x1 x2 x3 → Hs D ct ad L φ N0 s.heap σ H locs → lv_has ls 4 [(0, .ref (ad 4 j0)), (1, .int (iv x1)), (2, .int (iv x2)), (3, .int (iv x3))] → W p l e ({ frames := 3, cells := 0, slots := 0, locals := 64 } : Room) s m args below meth c H locs 0 0 (MQ below (Qi D ct ad L φ N0 Q) args s 0 0 (AA N0)) (F0 m 38 ls [])) (σ : St) (j0 : Nat) (x1 : Int) (x2 : Int) (x3 : Int) (H : Heap) (locs : List Loc) (ls : Array Slot) (hw : wp_X4_faultyPlace_67 K38 Q σ j0 x1 x2 x3) (h : Hs D ct ad L φ N0 s.heap σ H locs) (hl : lv_has ls 4 [(0, .ref (ad 4 j0)), (1, .int (iv x1)), (2, .int (iv x2)), (3, .int (iv x3))]) : W p l e ({ frames := 3, cells := 0, slots := 0, locals := 64 } : Room) s m args below meth c H locs 0 0 (MQ below (Qi D ct ad L φ N0 Q) args s 0 0 (AA N0)) (F0 m 67 ls []) := by
  have hF := X.2.2.2.2.2.2.2.2.1
  unfold wp_X4_faultyPlace_67 at hw
  refine j_iinc (kk9 := 3) (lv' := [(3, .int (iv (x3 + 1))), (0, .ref (ad 4 j0)), (1, .int (iv x1)), (2, .int (iv x2))]) X dX4_faultyPlace_67 hl rfl (by decide) rfl (fun ls hl => ?_)
  refine lv_goto (tgt := 38) X.1 X.2.1 dX4_faultyPlace_70 (by decide) ?_
  exact hK38 σ j0 x1 x2 (x3 + 1) _ _ _ hw h (lv_sub hl [1, 2, 3, 0] rfl)
set_option maxRecDepth 100000 in
set_option maxHeartbeats 4000000 in
theorem lb_X4_faultyPlace_38 (X : Cx p s m meth c args cX4_faultyPlace 4 (some .int) RX4 D ct L φ N0) : ∀ (n : Nat) (σ : St) (j0 : Nat) (x1 : Int) (x2 : Int) (x3 : Int) (H : Heap) (locs : List Loc) (ls : Array Slot), wp_X4_faultyPlace_38 Q n σ j0 x1 x2 x3 → Hs D ct ad L φ N0 s.heap σ H locs → lv_has ls 4 [(0, .ref (ad 4 j0)), (1, .int (iv x1)), (2, .int (iv x2)), (3, .int (iv x3))] → W p l e ({ frames := 3, cells := 0, slots := 0, locals := 64 } : Room) s m args below meth c H locs 0 0 (MQ below (Qi D ct ad L φ N0 Q) args s 0 0 (AA N0)) (F0 m 38 ls []) := by
  have hF := X.2.2.2.2.2.2.2.2.1
  intro n
  induction n with
  | zero => intro σ j0 x1 x2 x3 H locs ls hw; exact hw.elim
  | succ n ih =>
    intro σ j0 x1 x2 x3 H locs ls hw h hl
    unfold wp_X4_faultyPlace_38 at hw
    refine lv_iload_n X.1 X.2.1 dX4_faultyPlace_38 rfl (lv_at hl 3 rfl) ?_
    refine j_iconst X dX4_faultyPlace_39 ?_
    obtain ⟨g_1, hwt, hwf⟩ := hw
    refine j_cmp_ge (tgt := 73) X g_1 ⟨by decide, by decide⟩ dX4_faultyPlace_40 (by decide) (fun c_11 => ?_) (fun c_11 => ?_)
    · have hw := hwt c_11
      refine j_bipush X dX4_faultyPlace_73 (by decide) ?_
      exact k_ir X rfl h hw dX4_faultyPlace_75
    · have hw := hwf c_11
      refine lv_iload_n X.1 X.2.1 dX4_faultyPlace_43 rfl (lv_at hl 1 rfl) ?_
      refine lv_iload_n X.1 X.2.1 dX4_faultyPlace_44 rfl (lv_at hl 3 rfl) ?_
      refine j_iconst X dX4_faultyPlace_45 ?_
      refine j_iadd X dX4_faultyPlace_46 ?_
      refine j_imul X dX4_faultyPlace_47 ?_
      refine j_ldc (n := 65537) X kw_771 (by decide) dX4_faultyPlace_48 ?_
      obtain ⟨g_2, hw⟩ := hw
      refine j_irem X g_2 ⟨by decide, by decide⟩ (by decide) (by decide) dX4_faultyPlace_50 ?_
      refine lv_iload_n X.1 X.2.1 dX4_faultyPlace_51 rfl (lv_at hl 2 rfl) ?_
      obtain ⟨g_3, g_4, hwt, hwf⟩ := hw
      refine j_cmp_ne (tgt := 67) X g_3 g_4 dX4_faultyPlace_52 (by decide) (fun c_10 => ?_) (fun c_10 => ?_)
      · have hw := hwt c_10
        exact lb_X4_faultyPlace_67 X ih σ j0 x1 x2 x3 _ _ _ hw h (lv_sub hl [0, 1, 2, 3] rfl)
      · have hw := hwf c_10
        refine lv_aload_n X.1 X.2.1 dX4_faultyPlace_55 rfl (lv_at hl 0 rfl) ?_
        refine lv_iload_n X.1 X.2.1 dX4_faultyPlace_56 rfl (lv_at hl 3 rfl) ?_
        obtain ⟨g_5, hw⟩ := hw
        refine k_i h (r_V (C := RX4) (ci := 4) (As := [.int (iv x3)]) (rest := []) X h (c_X4_rightNumber l D ct ad L φ N0 σ j0 x3 _ hw) rfl rfl ⟨Nat.le_of_ble_eq_true rfl, Nat.le_of_ble_eq_true rfl⟩ kw_1513 kw_1514 kw_1515 kw_131 kw_1516 ⟨rfl, pd_X4_rightNumber⟩ (h.2.2.1 j0 g_5).1 rfl rfl rfl hl.1 rfl (Nat.le_of_ble_eq_true rfl) ⟨Nat.le_of_ble_eq_true rfl, Nat.le_of_ble_eq_true rfl⟩ dX4_faultyPlace_57) (fun r_7 σ_6 H locs hw h => ?_)
        refine j_ldc (n := 65535) X kw_1517 (by decide) dX4_faultyPlace_60 ?_
        obtain ⟨g_8, hwt, hwf⟩ := hw
        refine j_cmp_gt (tgt := 67) X g_8 ⟨by decide, by decide⟩ dX4_faultyPlace_62 (by decide) (fun c_9 => ?_) (fun c_9 => ?_)
        · have hw := hwt c_9
          exact lb_X4_faultyPlace_67 X ih σ_6 j0 x1 x2 x3 _ _ _ hw h (lv_sub hl [0, 1, 2, 3] rfl)
        · have hw := hwf c_9
          refine lv_iload_n X.1 X.2.1 dX4_faultyPlace_65 rfl (lv_at hl 3 rfl) ?_
          exact k_ir X rfl h hw dX4_faultyPlace_66
theorem pd_X4_faultyPlace : yX4_faultyPlace.cls ≠ "java/lang/invoke/MethodHandle" ∧ yX4_faultyPlace.cls ≠ "java/lang/invoke/VarHandle" ∧ (parseMethodDescriptor yX4_faultyPlace.desc).map (fun d => d.parameters.length) = some 0 := by decide +kernel
set_option maxRecDepth 100000 in
set_option maxHeartbeats 4000000 in
theorem c_X4_faultyPlace (l : Launch) (D : va_G) (ct : Nat → ClassId) (ad : Nat → Nat → Nat) (L : List (Nat × Nat)) (φ : Nat → Nat → Nat → Bool) (N0 : Nat) (σ : St) (j0 : Nat) (Q : Int → St → Prop) (hw : wp_X4_faultyPlace σ j0 Q) : Met l yX4_faultyPlace (.code yX4_faultyPlace cX4_faultyPlace 4 (some .int) :: gw) ({ frames := 3, cells := 0, slots := 0, locals := 64 } : Room) (Pm D ct ad L φ N0 σ [.ref (ad 4 j0)]) (Qi D ct ad L φ N0 Q) 0 0 (AA N0) := by
  refine m_of (by decide) (fun p e s m below meth c X hnm h => ?_)
  have hF := X.2.2.2.2.2.2.2.2.1
  have hl := lv_entry ([.ref (ad 4 j0)]) (n := 4) (Nat.le_of_ble_eq_true rfl)
  rw [lg_entry_eq]
  generalize (lg_sl ([.ref (ad 4 j0)]) ++ List.replicate (4 - (lg_sl ([.ref (ad 4 j0)])).length) Slot.unset).toArray = ls at hl ⊢
  have hl : lv_has ls 4 [(0, .ref (ad 4 j0))] := hl
  have h : Hs D ct ad L φ N0 s.heap σ s.heap [] := h
  unfold wp_X4_faultyPlace at hw
  refine lv_aload_n X.1 X.2.1 dX4_faultyPlace_0 rfl (lv_at hl 0 rfl) ?_
  obtain ⟨g_12, hw⟩ := hw
  refine k_i h (r_V (C := RX4) (ci := 4) (As := []) (rest := []) X h (c_X4_lackingOfAll l D ct ad L φ N0 σ j0 _ hw) rfl rfl ⟨Nat.le_of_ble_eq_true rfl, Nat.le_of_ble_eq_true rfl⟩ kw_1506 kw_1508 kw_59 kw_131 kw_1509 ⟨rfl, pd_X4_lackingOfAll⟩ (h.2.2.1 j0 g_12).1 rfl rfl rfl hl.1 rfl (Nat.le_of_ble_eq_true rfl) ⟨Nat.le_of_ble_eq_true rfl, Nat.le_of_ble_eq_true rfl⟩ dX4_faultyPlace_1) (fun r_14 σ_13 H locs hw h => ?_)
  refine lv_istore_n (lv' := [(1, .int (iv r_14)), (0, .ref (ad 4 j0))]) X.1 X.2.1 dX4_faultyPlace_4 rfl hl (by decide) rfl (fun ls hl => ?_)
  refine lv_aload_n X.1 X.2.1 dX4_faultyPlace_5 rfl (lv_at hl 1 rfl) ?_
  obtain ⟨g_15, hw⟩ := hw
  refine r_get (ci := 4) X inw_4 h (h.2.2.1 j0 g_15).1 rfl rfl 15 (by decide) kw_729 rfl dX4_faultyPlace_6 ?_
  refine lv_aload_n X.1 X.2.1 dX4_faultyPlace_9 rfl (lv_at hl 1 rfl) ?_
  refine j_iconst X dX4_faultyPlace_10 ?_
  obtain ⟨g_16, hw⟩ := hw
  refine k_i h (r_V (C := RX4) (ci := 4) (As := [.int (iv 1)]) (rest := [.int (iv (σ_13 4 j0 15))]) X h (c_X4_sumNow l D ct ad L φ N0 σ_13 j0 1 _ hw) rfl rfl ⟨Nat.le_of_ble_eq_true rfl, Nat.le_of_ble_eq_true rfl⟩ kw_767 kw_769 kw_10 kw_131 kw_770 ⟨rfl, pd_X4_sumNow⟩ (h.2.2.1 j0 g_16).1 rfl rfl rfl hl.1 rfl (Nat.le_of_ble_eq_true rfl) ⟨Nat.le_of_ble_eq_true rfl, Nat.le_of_ble_eq_true rfl⟩ dX4_faultyPlace_11) (fun r_18 σ_17 H locs hw h => ?_)
  refine j_isub X dX4_faultyPlace_14 ?_
  refine j_ldc (n := 65537) X kw_771 (by decide) dX4_faultyPlace_15 ?_
  refine k_i h (r_S (As := [.int (iv ((σ_13 4 j0 15) - r_18)), .int (iv 65537)]) (rest := []) X h (c_J9_floorMod_7cf53 l D ct ad L φ N0 σ_17 ((σ_13 4 j0 15) - r_18) 65537 _ hw) rfl rfl ⟨Nat.le_of_ble_eq_true rfl, Nat.le_of_ble_eq_true rfl⟩ kw_1510 kw_1511 kw_130 kw_1512 pd_J9_floorMod_7cf53 rfl hl.1 rfl (Nat.le_of_ble_eq_true rfl) ⟨Nat.le_of_ble_eq_true rfl, Nat.le_of_ble_eq_true rfl⟩ dX4_faultyPlace_17) (fun r_20 σ_19 H locs hw h => ?_)
  refine lv_istore_n (lv' := [(2, .int (iv r_20)), (1, .int (iv r_14)), (0, .ref (ad 4 j0))]) X.1 X.2.1 dX4_faultyPlace_20 rfl hl (by decide) rfl (fun ls hl => ?_)
  refine lv_iload_n X.1 X.2.1 dX4_faultyPlace_21 rfl (lv_at hl 1 rfl) ?_
  obtain ⟨g_21, hwt, hwf⟩ := hw
  refine j_if_ne (tgt := 36) X g_21 dX4_faultyPlace_22 (by decide) (fun c_24 => ?_) (fun c_24 => ?_)
  · have hw := hwt c_24
    refine j_iconst X dX4_faultyPlace_36 ?_
    refine lv_istore_n (lv' := [(3, .int (iv 0)), (2, .int (iv r_20)), (1, .int (iv r_14)), (0, .ref (ad 4 j0))]) X.1 X.2.1 dX4_faultyPlace_37 rfl hl (by decide) rfl (fun ls hl => ?_)
    exact hw.elim (fun n38 hw => lb_X4_faultyPlace_38 X n38 σ_19 j0 r_14 r_20 0 _ _ _ hw h (lv_sub hl [3, 2, 1, 0] rfl))
  · have hw := hwf c_24
    refine lv_iload_n X.1 X.2.1 dX4_faultyPlace_25 rfl (lv_at hl 0 rfl) ?_
    obtain ⟨g_22, hwt, hwf⟩ := hw
    refine j_if_ne (tgt := 33) X g_22 dX4_faultyPlace_26 (by decide) (fun c_23 => ?_) (fun c_23 => ?_)
    · have hw := hwt c_23
      refine j_bipush X dX4_faultyPlace_33 (by decide) ?_
      exact k_ir X rfl h hw dX4_faultyPlace_35
    · have hw := hwf c_23
      refine j_iconst X dX4_faultyPlace_29 ?_
      refine lv_goto (tgt := 35) X.1 X.2.1 dX4_faultyPlace_30 (by decide) ?_
      exact k_ir X rfl h hw dX4_faultyPlace_35
end
section
variable {p : Program} {l : Launch} {e : Env} {s : State} {m : MethodId} {args : Array Value} {below : List Frame} {meth : Method} {c : Code} {D : va_G} {ct : Nat → ClassId} {ad : Nat → Nat → Nat} {L : List (Nat × Nat)} {φ : Nat → Nat → Nat → Bool} {N0 : Nat}
variable {Q : Int → St → Prop}
theorem pd_X5_addSpur : yX5_addSpur.cls ≠ "java/lang/invoke/MethodHandle" ∧ yX5_addSpur.cls ≠ "java/lang/invoke/VarHandle" ∧ (parseMethodDescriptor yX5_addSpur.desc).map (fun d => d.parameters.length) = some 3 := by decide +kernel
set_option maxRecDepth 100000 in
set_option maxHeartbeats 4000000 in
theorem c_X5_addSpur (l : Launch) (D : va_G) (ct : Nat → ClassId) (ad : Nat → Nat → Nat) (L : List (Nat × Nat)) (φ : Nat → Nat → Nat → Bool) (N0 : Nat) (σ : St) (x1 : Int) (x2 : Int) (x3 : Int) (Q : Int → St → Prop) (hw : wp_X5_addSpur σ x1 x2 x3 Q) : Met l yX5_addSpur (.code yX5_addSpur cX5_addSpur 4 (some .int) :: gw) ({ frames := 0, cells := 0, slots := 0, locals := 0 } : Room) (Pm D ct ad L φ N0 σ [.ref (ad 5 0), .int (iv x1), .int (iv x2), .int (iv x3)]) (Qi D ct ad L φ N0 Q) 0 0 (AA N0) := by
  refine m_of (by decide) (fun p e s m below meth c X hnm h => ?_)
  have hF := X.2.2.2.2.2.2.2.2.1
  have hl := lv_entry ([.ref (ad 5 0), .int (iv x1), .int (iv x2), .int (iv x3)]) (n := 4) (Nat.le_of_ble_eq_true rfl)
  rw [lg_entry_eq]
  generalize (lg_sl ([.ref (ad 5 0), .int (iv x1), .int (iv x2), .int (iv x3)]) ++ List.replicate (4 - (lg_sl ([.ref (ad 5 0), .int (iv x1), .int (iv x2), .int (iv x3)])).length) Slot.unset).toArray = ls at hl ⊢
  have hl : lv_has ls 4 [(0, .ref (ad 5 0)), (1, .int (iv x1)), (2, .int (iv x2)), (3, .int (iv x3))] := hl
  have h : Hs D ct ad L φ N0 s.heap σ s.heap [] := h
  unfold wp_X5_addSpur at hw
  refine lv_aload_n X.1 X.2.1 dX5_addSpur_0 rfl (lv_at hl 0 rfl) ?_
  refine r_getR (ci := 5) X inw_5 h (hF.1 5 rfl).1 rfl rfl 0 (by decide) kw_382 rfl ((hF.1 5 rfl).2 0) dX5_addSpur_1 ?_
  refine lv_aload_n X.1 X.2.1 dX5_addSpur_4 rfl (lv_at hl 0 rfl) ?_
  refine r_get (ci := 5) X inw_5 h (hF.1 5 rfl).1 rfl rfl 3 (by decide) kw_385 rfl dX5_addSpur_5 ?_
  refine lv_iload_n X.1 X.2.1 dX5_addSpur_8 rfl (lv_at hl 1 rfl) ?_
  obtain ⟨g_1, g_2, hw⟩ := hw
  refine r_iast (n := 9) X h (hF.1 39 rfl).1 (fun _ => rfl) (by decide) g_1 g_2 rfl dX5_addSpur_9 (fun H locs h => ?_)
  obtain ⟨σ_3, eσ_3⟩ : ∃ z : St, z = st σ 39 0 (Int.toNat (σ 5 0 3)) x1 := ⟨_, rfl⟩
  rw [← eσ_3] at h
  have hw := hw σ_3 eσ_3
  refine lv_aload_n X.1 X.2.1 dX5_addSpur_10 rfl (lv_at hl 0 rfl) ?_
  refine r_getR (ci := 5) X inw_5 h (hF.1 5 rfl).1 rfl rfl 1 (by decide) kw_383 rfl ((hF.1 5 rfl).2 1) dX5_addSpur_11 ?_
  refine lv_aload_n X.1 X.2.1 dX5_addSpur_14 rfl (lv_at hl 0 rfl) ?_
  refine r_get (ci := 5) X inw_5 h (hF.1 5 rfl).1 rfl rfl 3 (by decide) kw_385 rfl dX5_addSpur_15 ?_
  refine lv_iload_n X.1 X.2.1 dX5_addSpur_18 rfl (lv_at hl 2 rfl) ?_
  obtain ⟨g_4, g_5, hw⟩ := hw
  refine r_iast (n := 9) X h (hF.1 40 rfl).1 (fun _ => rfl) (by decide) g_4 g_5 rfl dX5_addSpur_19 (fun H locs h => ?_)
  obtain ⟨σ_6, eσ_6⟩ : ∃ z : St, z = st σ_3 40 0 (Int.toNat (σ_3 5 0 3)) x2 := ⟨_, rfl⟩
  rw [← eσ_6] at h
  have hw := hw σ_6 eσ_6
  refine lv_aload_n X.1 X.2.1 dX5_addSpur_20 rfl (lv_at hl 0 rfl) ?_
  refine r_getR (ci := 5) X inw_5 h (hF.1 5 rfl).1 rfl rfl 2 (by decide) kw_384 rfl ((hF.1 5 rfl).2 2) dX5_addSpur_21 ?_
  refine lv_aload_n X.1 X.2.1 dX5_addSpur_24 rfl (lv_at hl 0 rfl) ?_
  refine r_get (ci := 5) X inw_5 h (hF.1 5 rfl).1 rfl rfl 3 (by decide) kw_385 rfl dX5_addSpur_25 ?_
  refine lv_iload_n X.1 X.2.1 dX5_addSpur_28 rfl (lv_at hl 3 rfl) ?_
  obtain ⟨g_7, g_8, hw⟩ := hw
  refine r_iast (n := 9) X h (hF.1 41 rfl).1 (fun _ => rfl) (by decide) g_7 g_8 rfl dX5_addSpur_29 (fun H locs h => ?_)
  obtain ⟨σ_9, eσ_9⟩ : ∃ z : St, z = st σ_6 41 0 (Int.toNat (σ_6 5 0 3)) x3 := ⟨_, rfl⟩
  rw [← eσ_9] at h
  have hw := hw σ_9 eσ_9
  refine lv_aload_n X.1 X.2.1 dX5_addSpur_30 rfl (lv_at hl 0 rfl) ?_
  refine lv_dup X.1 X.2.1 dX5_addSpur_31 rfl ?_
  refine r_get (ci := 5) X inw_5 h (hF.1 5 rfl).1 rfl rfl 3 (by decide) kw_385 rfl dX5_addSpur_32 ?_
  refine j_iconst X dX5_addSpur_35 ?_
  refine j_iadd X dX5_addSpur_36 ?_
  refine r_put (ci := 5) X inw_5 tyX5 tyX5_ok nmX5 h (hF.1 5 rfl).1 rfl rfl 3 (by decide) kw_385 rfl rfl rfl (Nat.le_of_ble_eq_true rfl) rfl rfl dX5_addSpur_37 (fun H locs h => ?_)
  obtain ⟨σ_10, eσ_10⟩ : ∃ z : St, z = st σ_9 5 0 3 ((σ_9 5 0 3) + 1) := ⟨_, rfl⟩
  rw [← eσ_10] at h
  have hw := hw σ_10 eσ_10
  refine lv_aload_n X.1 X.2.1 dX5_addSpur_40 rfl (lv_at hl 0 rfl) ?_
  refine r_get (ci := 5) X inw_5 h (hF.1 5 rfl).1 rfl rfl 3 (by decide) kw_385 rfl dX5_addSpur_41 ?_
  refine j_iconst X dX5_addSpur_44 ?_
  refine j_isub X dX5_addSpur_45 ?_
  exact k_ir X rfl h hw dX5_addSpur_46
end
section
variable {p : Program} {l : Launch} {e : Env} {s : State} {m : MethodId} {args : Array Value} {below : List Frame} {meth : Method} {c : Code} {D : va_G} {ct : Nat → ClassId} {ad : Nat → Nat → Nat} {L : List (Nat × Nat)} {φ : Nat → Nat → Nat → Bool} {N0 : Nat}
variable {Q : St → Prop}
set_option maxRecDepth 100000 in
set_option maxHeartbeats 4000000 in
theorem lb_X5_addUpSets_90 (X : Cx p s m meth c args cX5_addUpSets 4 none RX5 D ct L φ N0) {K2 : St → Int → Prop} (hK2 : ∀ (σ : St) (x1 : Int) (H : Heap) (locs : List Loc) (ls : Array Slot), K2 σ x1 → Hs D ct ad L φ N0 s.heap σ H locs → lv_has ls 4 [(0, .ref (ad 5 0)), (1, .int (iv x1))] → W p l e ({ frames := 0, cells := 0, slots := 0, locals := 0 } : Room) s m args below meth c H locs 0 0 (MQ below (Qv D ct ad L φ N0 Q) args s 0 0 (AA N0)) (F0 m 2 ls [])) (σ : St) (x1 : Int) (H : Heap) (locs : List Loc) (ls : Array Slot) (hw : wp_X5_addUpSets_90 K2 Q σ x1) (h : Hs D ct ad L φ N0 s.heap σ H locs) (hl : lv_has ls 4 [(0, .ref (ad 5 0)), (1, .int (iv x1))]) : W p l e ({ frames := 0, cells := 0, slots := 0, locals := 0 } : Room) s m args below meth c H locs 0 0 (MQ below (Qv D ct ad L φ N0 Q) args s 0 0 (AA N0)) (F0 m 90 ls []) := by
  have hF := X.2.2.2.2.2.2.2.2.1
  unfold wp_X5_addUpSets_90 at hw
  refine j_iinc (kk9 := 1) (lv' := [(1, .int (iv (x1 + 1))), (0, .ref (ad 5 0))]) X dX5_addUpSets_90 hl rfl (by decide) rfl (fun ls hl => ?_)
  refine lv_goto (tgt := 2) X.1 X.2.1 dX5_addUpSets_93 (by decide) ?_
  exact hK2 σ (x1 + 1) _ _ _ hw h (lv_sub hl [1, 0] rfl)
set_option maxRecDepth 100000 in
set_option maxHeartbeats 4000000 in
theorem lb_X5_addUpSets_16 (X : Cx p s m meth c args cX5_addUpSets 4 none RX5 D ct L φ N0) {K90 : St → Int → Prop} (hK90 : ∀ (σ : St) (x1 : Int) (H : Heap) (locs : List Loc) (ls : Array Slot), K90 σ x1 → Hs D ct ad L φ N0 s.heap σ H locs → lv_has ls 4 [(0, .ref (ad 5 0)), (1, .int (iv x1))] → W p l e ({ frames := 0, cells := 0, slots := 0, locals := 0 } : Room) s m args below meth c H locs 0 0 (MQ below (Qv D ct ad L φ N0 Q) args s 0 0 (AA N0)) (F0 m 90 ls [])) : ∀ (n : Nat) (σ : St) (x1 : Int) (x2 : Int) (x3 : Int) (H : Heap) (locs : List Loc) (ls : Array Slot), wp_X5_addUpSets_16 K90 Q n σ x1 x2 x3 → Hs D ct ad L φ N0 s.heap σ H locs → lv_has ls 4 [(0, .ref (ad 5 0)), (1, .int (iv x1)), (2, .int (iv x2)), (3, .int (iv x3))] → W p l e ({ frames := 0, cells := 0, slots := 0, locals := 0 } : Room) s m args below meth c H locs 0 0 (MQ below (Qv D ct ad L φ N0 Q) args s 0 0 (AA N0)) (F0 m 16 ls []) := by
  have hF := X.2.2.2.2.2.2.2.2.1
  intro n
  induction n with
  | zero => intro σ x1 x2 x3 H locs ls hw; exact hw.elim
  | succ n ih =>
    intro σ x1 x2 x3 H locs ls hw h hl
    unfold wp_X5_addUpSets_16 at hw
    refine lv_iload_n X.1 X.2.1 dX5_addUpSets_16 rfl (lv_at hl 3 rfl) ?_
    refine lv_iload_n X.1 X.2.1 dX5_addUpSets_17 rfl (lv_at hl 2 rfl) ?_
    obtain ⟨g_1, g_2, hwt, hwf⟩ := hw
    refine j_cmp_ge (tgt := 90) X g_1 g_2 dX5_addUpSets_18 (by decide) (fun c_24 => ?_) (fun c_24 => ?_)
    · have hw := hwt c_24
      exact hK90 σ x1 _ _ _ hw h (lv_sub hl [0, 1] rfl)
    · have hw := hwf c_24
      refine lv_aload_n X.1 X.2.1 dX5_addUpSets_21 rfl (lv_at hl 0 rfl) ?_
      refine r_getR (ci := 5) X inw_5 h (hF.1 5 rfl).1 rfl rfl 5 (by decide) kw_389 rfl ((hF.1 5 rfl).2 5) dX5_addUpSets_22 ?_
      refine lv_iload_n X.1 X.2.1 dX5_addUpSets_25 rfl (lv_at hl 3 rfl) ?_
      refine lv_iload_n X.1 X.2.1 dX5_addUpSets_26 rfl (lv_at hl 2 rfl) ?_
      refine j_iadd X dX5_addUpSets_27 ?_
      refine lv_aload_n X.1 X.2.1 dX5_addUpSets_28 rfl (lv_at hl 0 rfl) ?_
      refine r_getR (ci := 5) X inw_5 h (hF.1 5 rfl).1 rfl rfl 5 (by decide) kw_389 rfl ((hF.1 5 rfl).2 5) dX5_addUpSets_29 ?_
      refine lv_iload_n X.1 X.2.1 dX5_addUpSets_32 rfl (lv_at hl 3 rfl) ?_
      obtain ⟨g_3, g_4, hw⟩ := hw
      refine r_iald (n := 512) X h (hF.1 43 rfl).1 rfl (by decide) g_3 g_4 dX5_addUpSets_33 ?_
      refine lv_aload_n X.1 X.2.1 dX5_addUpSets_34 rfl (lv_at hl 0 rfl) ?_
      refine r_getR (ci := 5) X inw_5 h (hF.1 5 rfl).1 rfl rfl 0 (by decide) kw_382 rfl ((hF.1 5 rfl).2 0) dX5_addUpSets_35 ?_
      refine lv_iload_n X.1 X.2.1 dX5_addUpSets_38 rfl (lv_at hl 1 rfl) ?_
      obtain ⟨g_5, g_6, hw⟩ := hw
      refine r_iald (n := 9) X h (hF.1 39 rfl).1 rfl (by decide) g_5 g_6 dX5_addUpSets_39 ?_
      refine j_ior X dX5_addUpSets_40 ?_
      obtain ⟨g_7, g_8, hw⟩ := hw
      refine r_iast (n := 512) X h (hF.1 43 rfl).1 (fun _ => rfl) (by decide) g_7 g_8 rfl dX5_addUpSets_41 (fun H locs h => ?_)
      obtain ⟨σ_9, eσ_9⟩ : ∃ z : St, z = st σ 43 0 (Int.toNat (x3 + x2)) (i_ior (σ 43 0 (Int.toNat x3)) (σ 39 0 (Int.toNat x1))) := ⟨_, rfl⟩
      rw [← eσ_9] at h
      have hw := hw σ_9 eσ_9
      refine lv_aload_n X.1 X.2.1 dX5_addUpSets_42 rfl (lv_at hl 0 rfl) ?_
      refine r_getR (ci := 5) X inw_5 h (hF.1 5 rfl).1 rfl rfl 6 (by decide) kw_390 rfl ((hF.1 5 rfl).2 6) dX5_addUpSets_43 ?_
      refine lv_iload_n X.1 X.2.1 dX5_addUpSets_46 rfl (lv_at hl 3 rfl) ?_
      refine lv_iload_n X.1 X.2.1 dX5_addUpSets_47 rfl (lv_at hl 2 rfl) ?_
      refine j_iadd X dX5_addUpSets_48 ?_
      refine lv_aload_n X.1 X.2.1 dX5_addUpSets_49 rfl (lv_at hl 0 rfl) ?_
      refine r_getR (ci := 5) X inw_5 h (hF.1 5 rfl).1 rfl rfl 6 (by decide) kw_390 rfl ((hF.1 5 rfl).2 6) dX5_addUpSets_50 ?_
      refine lv_iload_n X.1 X.2.1 dX5_addUpSets_53 rfl (lv_at hl 3 rfl) ?_
      obtain ⟨g_10, g_11, hw⟩ := hw
      refine r_iald (n := 512) X h (hF.1 44 rfl).1 rfl (by decide) g_10 g_11 dX5_addUpSets_54 ?_
      refine lv_aload_n X.1 X.2.1 dX5_addUpSets_55 rfl (lv_at hl 0 rfl) ?_
      refine r_getR (ci := 5) X inw_5 h (hF.1 5 rfl).1 rfl rfl 1 (by decide) kw_383 rfl ((hF.1 5 rfl).2 1) dX5_addUpSets_56 ?_
      refine lv_iload_n X.1 X.2.1 dX5_addUpSets_59 rfl (lv_at hl 1 rfl) ?_
      obtain ⟨g_12, g_13, hw⟩ := hw
      refine r_iald (n := 9) X h (hF.1 40 rfl).1 rfl (by decide) g_12 g_13 dX5_addUpSets_60 ?_
      refine j_iadd X dX5_addUpSets_61 ?_
      obtain ⟨g_14, g_15, hw⟩ := hw
      refine r_iast (n := 512) X h (hF.1 44 rfl).1 (fun _ => rfl) (by decide) g_14 g_15 rfl dX5_addUpSets_62 (fun H locs h => ?_)
      obtain ⟨σ_16, eσ_16⟩ : ∃ z : St, z = st σ_9 44 0 (Int.toNat (x3 + x2)) ((σ_9 44 0 (Int.toNat x3)) + (σ_9 40 0 (Int.toNat x1))) := ⟨_, rfl⟩
      rw [← eσ_16] at h
      have hw := hw σ_16 eσ_16
      refine lv_aload_n X.1 X.2.1 dX5_addUpSets_63 rfl (lv_at hl 0 rfl) ?_
      refine r_getR (ci := 5) X inw_5 h (hF.1 5 rfl).1 rfl rfl 7 (by decide) kw_391 rfl ((hF.1 5 rfl).2 7) dX5_addUpSets_64 ?_
      refine lv_iload_n X.1 X.2.1 dX5_addUpSets_67 rfl (lv_at hl 3 rfl) ?_
      refine lv_iload_n X.1 X.2.1 dX5_addUpSets_68 rfl (lv_at hl 2 rfl) ?_
      refine j_iadd X dX5_addUpSets_69 ?_
      refine lv_aload_n X.1 X.2.1 dX5_addUpSets_70 rfl (lv_at hl 0 rfl) ?_
      refine r_getR (ci := 5) X inw_5 h (hF.1 5 rfl).1 rfl rfl 7 (by decide) kw_391 rfl ((hF.1 5 rfl).2 7) dX5_addUpSets_71 ?_
      refine lv_iload_n X.1 X.2.1 dX5_addUpSets_74 rfl (lv_at hl 3 rfl) ?_
      obtain ⟨g_17, g_18, hw⟩ := hw
      refine r_iald (n := 512) X h (hF.1 45 rfl).1 rfl (by decide) g_17 g_18 dX5_addUpSets_75 ?_
      refine lv_aload_n X.1 X.2.1 dX5_addUpSets_76 rfl (lv_at hl 0 rfl) ?_
      refine r_getR (ci := 5) X inw_5 h (hF.1 5 rfl).1 rfl rfl 2 (by decide) kw_384 rfl ((hF.1 5 rfl).2 2) dX5_addUpSets_77 ?_
      refine lv_iload_n X.1 X.2.1 dX5_addUpSets_80 rfl (lv_at hl 1 rfl) ?_
      obtain ⟨g_19, g_20, hw⟩ := hw
      refine r_iald (n := 9) X h (hF.1 41 rfl).1 rfl (by decide) g_19 g_20 dX5_addUpSets_81 ?_
      refine j_iadd X dX5_addUpSets_82 ?_
      obtain ⟨g_21, g_22, hw⟩ := hw
      refine r_iast (n := 512) X h (hF.1 45 rfl).1 (fun _ => rfl) (by decide) g_21 g_22 rfl dX5_addUpSets_83 (fun H locs h => ?_)
      obtain ⟨σ_23, eσ_23⟩ : ∃ z : St, z = st σ_16 45 0 (Int.toNat (x3 + x2)) ((σ_16 45 0 (Int.toNat x3)) + (σ_16 41 0 (Int.toNat x1))) := ⟨_, rfl⟩
      rw [← eσ_23] at h
      have hw := hw σ_23 eσ_23
      refine j_iinc (kk9 := 3) (lv' := [(3, .int (iv (x3 + 1))), (0, .ref (ad 5 0)), (1, .int (iv x1)), (2, .int (iv x2))]) X dX5_addUpSets_84 hl rfl (by decide) rfl (fun ls hl => ?_)
      refine lv_goto (tgt := 16) X.1 X.2.1 dX5_addUpSets_87 (by decide) ?_
      exact ih σ_23 x1 x2 (x3 + 1) _ _ _ hw h (lv_sub hl [1, 2, 3, 0] rfl)
set_option maxRecDepth 100000 in
set_option maxHeartbeats 4000000 in
theorem lb_X5_addUpSets_2 (X : Cx p s m meth c args cX5_addUpSets 4 none RX5 D ct L φ N0) : ∀ (n : Nat) (σ : St) (x1 : Int) (H : Heap) (locs : List Loc) (ls : Array Slot), wp_X5_addUpSets_2 Q n σ x1 → Hs D ct ad L φ N0 s.heap σ H locs → lv_has ls 4 [(0, .ref (ad 5 0)), (1, .int (iv x1))] → W p l e ({ frames := 0, cells := 0, slots := 0, locals := 0 } : Room) s m args below meth c H locs 0 0 (MQ below (Qv D ct ad L φ N0 Q) args s 0 0 (AA N0)) (F0 m 2 ls []) := by
  have hF := X.2.2.2.2.2.2.2.2.1
  intro n
  induction n with
  | zero => intro σ x1 H locs ls hw; exact hw.elim
  | succ n ih =>
    intro σ x1 H locs ls hw h hl
    unfold wp_X5_addUpSets_2 at hw
    refine lv_iload_n X.1 X.2.1 dX5_addUpSets_2 rfl (lv_at hl 1 rfl) ?_
    refine lv_aload_n X.1 X.2.1 dX5_addUpSets_3 rfl (lv_at hl 0 rfl) ?_
    refine r_get (ci := 5) X inw_5 h (hF.1 5 rfl).1 rfl rfl 3 (by decide) kw_385 rfl dX5_addUpSets_4 ?_
    obtain ⟨g_25, g_26, hwt, hwf⟩ := hw
    refine j_cmp_ge (tgt := 96) X g_25 g_26 dX5_addUpSets_7 (by decide) (fun c_28 => ?_) (fun c_28 => ?_)
    · have hw := hwt c_28
      exact k_vr X h hw dX5_addUpSets_96
    · have hw := hwf c_28
      refine j_iconst X dX5_addUpSets_10 ?_
      refine lv_iload_n X.1 X.2.1 dX5_addUpSets_11 rfl (lv_at hl 1 rfl) ?_
      refine j_ishl X dX5_addUpSets_12 ?_
      refine j_bind (fun v_27 ev_27 => ?_)
      have hw := hw v_27 ev_27
      refine lv_istore_n (lv' := [(2, .int (iv v_27)), (0, .ref (ad 5 0)), (1, .int (iv x1))]) X.1 X.2.1 dX5_addUpSets_13 rfl hl (by decide) rfl (fun ls hl => ?_)
      refine j_iconst X dX5_addUpSets_14 ?_
      refine lv_istore_n (lv' := [(3, .int (iv 0)), (2, .int (iv v_27)), (0, .ref (ad 5 0)), (1, .int (iv x1))]) X.1 X.2.1 dX5_addUpSets_15 rfl hl (by decide) rfl (fun ls hl => ?_)
      exact hw.elim (fun n16 hw => lb_X5_addUpSets_16 X (lb_X5_addUpSets_90 X ih) n16 σ x1 v_27 0 _ _ _ hw h (lv_sub hl [2, 3, 1, 0] rfl))
theorem pd_X5_addUpSets : yX5_addUpSets.cls ≠ "java/lang/invoke/MethodHandle" ∧ yX5_addUpSets.cls ≠ "java/lang/invoke/VarHandle" ∧ (parseMethodDescriptor yX5_addUpSets.desc).map (fun d => d.parameters.length) = some 0 := by decide +kernel
set_option maxRecDepth 100000 in
set_option maxHeartbeats 4000000 in
theorem c_X5_addUpSets (l : Launch) (D : va_G) (ct : Nat → ClassId) (ad : Nat → Nat → Nat) (L : List (Nat × Nat)) (φ : Nat → Nat → Nat → Bool) (N0 : Nat) (σ : St) (Q : St → Prop) (hw : wp_X5_addUpSets σ Q) : Met l yX5_addUpSets (.code yX5_addUpSets cX5_addUpSets 4 none :: gw) ({ frames := 0, cells := 0, slots := 0, locals := 0 } : Room) (Pm D ct ad L φ N0 σ [.ref (ad 5 0)]) (Qv D ct ad L φ N0 Q) 0 0 (AA N0) := by
  refine m_of (by decide) (fun p e s m below meth c X hnm h => ?_)
  have hF := X.2.2.2.2.2.2.2.2.1
  have hl := lv_entry ([.ref (ad 5 0)]) (n := 4) (Nat.le_of_ble_eq_true rfl)
  rw [lg_entry_eq]
  generalize (lg_sl ([.ref (ad 5 0)]) ++ List.replicate (4 - (lg_sl ([.ref (ad 5 0)])).length) Slot.unset).toArray = ls at hl ⊢
  have hl : lv_has ls 4 [(0, .ref (ad 5 0))] := hl
  have h : Hs D ct ad L φ N0 s.heap σ s.heap [] := h
  unfold wp_X5_addUpSets at hw
  refine j_iconst X dX5_addUpSets_0 ?_
  refine lv_istore_n (lv' := [(1, .int (iv 0)), (0, .ref (ad 5 0))]) X.1 X.2.1 dX5_addUpSets_1 rfl hl (by decide) rfl (fun ls hl => ?_)
  exact hw.elim (fun n2 hw => lb_X5_addUpSets_2 X n2 σ 0 _ _ _ hw h (lv_sub hl [1, 0] rfl))
end
section
variable {p : Program} {l : Launch} {e : Env} {s : State} {m : MethodId} {args : Array Value} {below : List Frame} {meth : Method} {c : Code} {D : va_G} {ct : Nat → ClassId} {ad : Nat → Nat → Nat} {L : List (Nat × Nat)} {φ : Nat → Nat → Nat → Bool} {N0 : Nat}
variable {Q : Int → St → Prop}
theorem pd_J6_bitCount_0f7a4 : yJ6_bitCount_0f7a4.cls ≠ "java/lang/invoke/MethodHandle" ∧ yJ6_bitCount_0f7a4.cls ≠ "java/lang/invoke/VarHandle" ∧ (parseMethodDescriptor yJ6_bitCount_0f7a4.desc).map (fun d => d.parameters.length) = some 1 := by decide +kernel
set_option maxRecDepth 100000 in
set_option maxHeartbeats 4000000 in
theorem c_J6_bitCount_0f7a4 (l : Launch) (D : va_G) (ct : Nat → ClassId) (ad : Nat → Nat → Nat) (L : List (Nat × Nat)) (φ : Nat → Nat → Nat → Bool) (N0 : Nat) (σ : St) (x0 : Int) (Q : Int → St → Prop) (hw : wp_J6_bitCount_0f7a4 σ x0 Q) : Met l yJ6_bitCount_0f7a4 (.code yJ6_bitCount_0f7a4 cJ6_bitCount_0f7a4 1 (some .int) :: gw) ({ frames := 0, cells := 0, slots := 0, locals := 0 } : Room) (Pm D ct ad L φ N0 σ [.int (iv x0)]) (Qi D ct ad L φ N0 Q) 0 0 (AA N0) := by
  refine m_ofF (by decide +kernel) (fun p e s m below meth c X hnm h => ?_)
  have hF := X.2.2.2.2.2.2.2.2.1
  have hl := lv_entry ([.int (iv x0)]) (n := 1) (Nat.le_of_ble_eq_true rfl)
  rw [lg_entry_eq]
  generalize (lg_sl ([.int (iv x0)]) ++ List.replicate (1 - (lg_sl ([.int (iv x0)])).length) Slot.unset).toArray = ls at hl ⊢
  have hl : lv_has ls 1 [(0, .int (iv x0))] := hl
  have h : Hs D ct ad L φ N0 s.heap σ s.heap [] := h
  unfold wp_J6_bitCount_0f7a4 at hw
  refine lv_iload_n X.1 X.2.1 dJ6_bitCount_0f7a4_0 rfl (lv_at hl 0 rfl) ?_
  refine lv_iload_n X.1 X.2.1 dJ6_bitCount_0f7a4_1 rfl (lv_at hl 0 rfl) ?_
  refine j_iconst X dJ6_bitCount_0f7a4_2 ?_
  refine j_iushr X dJ6_bitCount_0f7a4_3 ?_
  refine j_ldc_w (n := 1431655765) X kw_1367 (by decide) dJ6_bitCount_0f7a4_4 ?_
  refine j_iand X dJ6_bitCount_0f7a4_7 ?_
  refine j_isub X dJ6_bitCount_0f7a4_8 ?_
  refine j_bind (fun v_1 ev_1 => ?_)
  have hw := hw v_1 ev_1
  refine lv_istore_n (lv' := [(0, .int (iv v_1))]) X.1 X.2.1 dJ6_bitCount_0f7a4_9 rfl hl (by decide) rfl (fun ls hl => ?_)
  refine lv_iload_n X.1 X.2.1 dJ6_bitCount_0f7a4_10 rfl (lv_at hl 0 rfl) ?_
  refine j_ldc_w (n := 858993459) X kw_1368 (by decide) dJ6_bitCount_0f7a4_11 ?_
  refine j_iand X dJ6_bitCount_0f7a4_14 ?_
  refine lv_iload_n X.1 X.2.1 dJ6_bitCount_0f7a4_15 rfl (lv_at hl 0 rfl) ?_
  refine j_iconst X dJ6_bitCount_0f7a4_16 ?_
  refine j_iushr X dJ6_bitCount_0f7a4_17 ?_
  refine j_ldc_w (n := 858993459) X kw_1368 (by decide) dJ6_bitCount_0f7a4_18 ?_
  refine j_iand X dJ6_bitCount_0f7a4_21 ?_
  refine j_iadd X dJ6_bitCount_0f7a4_22 ?_
  refine j_bind (fun v_2 ev_2 => ?_)
  have hw := hw v_2 ev_2
  refine lv_istore_n (lv' := [(0, .int (iv v_2))]) X.1 X.2.1 dJ6_bitCount_0f7a4_23 rfl hl (by decide) rfl (fun ls hl => ?_)
  refine lv_iload_n X.1 X.2.1 dJ6_bitCount_0f7a4_24 rfl (lv_at hl 0 rfl) ?_
  refine lv_iload_n X.1 X.2.1 dJ6_bitCount_0f7a4_25 rfl (lv_at hl 0 rfl) ?_
  refine j_iconst X dJ6_bitCount_0f7a4_26 ?_
  refine j_iushr X dJ6_bitCount_0f7a4_27 ?_
  refine j_iadd X dJ6_bitCount_0f7a4_28 ?_
  refine j_ldc_w (n := 252645135) X kw_1369 (by decide) dJ6_bitCount_0f7a4_29 ?_
  refine j_iand X dJ6_bitCount_0f7a4_32 ?_
  refine j_bind (fun v_3 ev_3 => ?_)
  have hw := hw v_3 ev_3
  refine lv_istore_n (lv' := [(0, .int (iv v_3))]) X.1 X.2.1 dJ6_bitCount_0f7a4_33 rfl hl (by decide) rfl (fun ls hl => ?_)
  refine lv_iload_n X.1 X.2.1 dJ6_bitCount_0f7a4_34 rfl (lv_at hl 0 rfl) ?_
  refine lv_iload_n X.1 X.2.1 dJ6_bitCount_0f7a4_35 rfl (lv_at hl 0 rfl) ?_
  refine j_bipush X dJ6_bitCount_0f7a4_36 (by decide) ?_
  refine j_iushr X dJ6_bitCount_0f7a4_38 ?_
  refine j_iadd X dJ6_bitCount_0f7a4_39 ?_
  refine j_bind (fun v_4 ev_4 => ?_)
  have hw := hw v_4 ev_4
  refine lv_istore_n (lv' := [(0, .int (iv v_4))]) X.1 X.2.1 dJ6_bitCount_0f7a4_40 rfl hl (by decide) rfl (fun ls hl => ?_)
  refine lv_iload_n X.1 X.2.1 dJ6_bitCount_0f7a4_41 rfl (lv_at hl 0 rfl) ?_
  refine lv_iload_n X.1 X.2.1 dJ6_bitCount_0f7a4_42 rfl (lv_at hl 0 rfl) ?_
  refine j_bipush X dJ6_bitCount_0f7a4_43 (by decide) ?_
  refine j_iushr X dJ6_bitCount_0f7a4_45 ?_
  refine j_iadd X dJ6_bitCount_0f7a4_46 ?_
  refine j_bind (fun v_5 ev_5 => ?_)
  have hw := hw v_5 ev_5
  refine lv_istore_n (lv' := [(0, .int (iv v_5))]) X.1 X.2.1 dJ6_bitCount_0f7a4_47 rfl hl (by decide) rfl (fun ls hl => ?_)
  refine lv_iload_n X.1 X.2.1 dJ6_bitCount_0f7a4_48 rfl (lv_at hl 0 rfl) ?_
  refine j_bipush X dJ6_bitCount_0f7a4_49 (by decide) ?_
  refine j_iand X dJ6_bitCount_0f7a4_51 ?_
  exact k_ir X rfl h hw dJ6_bitCount_0f7a4_52
end
section
variable {p : Program} {l : Launch} {e : Env} {s : State} {m : MethodId} {args : Array Value} {below : List Frame} {meth : Method} {c : Code} {D : va_G} {ct : Nat → ClassId} {ad : Nat → Nat → Nat} {L : List (Nat × Nat)} {φ : Nat → Nat → Nat → Bool} {N0 : Nat}
variable {Q : St → Prop}
set_option maxRecDepth 100000 in
set_option maxHeartbeats 4000000 in
theorem lb_X5_weighSeason_84 (X : Cx p s m meth c args cX5_weighSeason 7 none RX5 D ct L φ N0) {K3 : St → Int → Int → Int → Int → Prop} (hK3 : ∀ (σ : St) (x1 : Int) (x2 : Int) (x3 : Int) (x4 : Int) (H : Heap) (locs : List Loc) (ls : Array Slot), K3 σ x1 x2 x3 x4 → Hs D ct ad L φ N0 s.heap σ H locs → lv_has ls 7 [(0, .ref (ad 5 0)), (1, .int (iv x1)), (2, .int (iv x2)), (3, .int (iv x3)), (4, .int (iv x4))] → W p l e ({ frames := 1, cells := 0, slots := 0, locals := 20 } : Room) s m args below meth c H locs 0 0 (MQ below (Qv D ct ad L φ N0 Q) args s 0 0 (AA N0)) (F0 m 3 ls [])) (σ : St) (x1 : Int) (x2 : Int) (x3 : Int) (x4 : Int) (y0 : Int) (y1 : Int) (z2 : Nat) (H : Heap) (locs : List Loc) (ls : Array Slot) (hw : wp_X5_weighSeason_84 K3 Q σ x1 x2 x3 x4 y0 y1 z2) (h : Hs D ct ad L φ N0 s.heap σ H locs) (hl : lv_has ls 7 [(0, .ref (ad 5 0)), (1, .int (iv x1)), (2, .int (iv x2)), (3, .int (iv x3)), (4, .int (iv x4))]) : W p l e ({ frames := 1, cells := 0, slots := 0, locals := 20 } : Room) s m args below meth c H locs 0 0 (MQ below (Qv D ct ad L φ N0 Q) args s 0 0 (AA N0)) (F0 m 84 ls [.int (iv y0), .int (iv y1), .ref (ad 47 z2)]) := by
  have hF := X.2.2.2.2.2.2.2.2.1
  unfold wp_X5_weighSeason_84 at hw
  obtain ⟨g_1, g_2, g_3, hw⟩ := hw
  refine r_iast (n := 512) X h (hF.2.1 z2 g_1) (fun _ => rfl) (by decide) g_2 g_3 rfl dX5_weighSeason_84 (fun H locs h => ?_)
  obtain ⟨σ_4, eσ_4⟩ : ∃ z : St, z = st σ 47 z2 (Int.toNat y1) y0 := ⟨_, rfl⟩
  rw [← eσ_4] at h
  have hw := hw σ_4 eσ_4
  refine j_iinc (kk9 := 4) (lv' := [(4, .int (iv (x4 + 1))), (0, .ref (ad 5 0)), (1, .int (iv x1)), (2, .int (iv x2)), (3, .int (iv x3))]) X dX5_weighSeason_85 hl rfl (by decide) rfl (fun ls hl => ?_)
  refine lv_goto (tgt := 3) X.1 X.2.1 dX5_weighSeason_88 (by decide) ?_
  exact hK3 σ_4 x1 x2 x3 (x4 + 1) _ _ _ hw h (lv_sub hl [1, 2, 3, 4, 0] rfl)
set_option maxRecDepth 100000 in
set_option maxHeartbeats 4000000 in
theorem lb_X5_weighSeason_51 (X : Cx p s m meth c args cX5_weighSeason 7 none RX5 D ct L φ N0) {K3 : St → Int → Int → Int → Int → Prop} (hK3 : ∀ (σ : St) (x1 : Int) (x2 : Int) (x3 : Int) (x4 : Int) (H : Heap) (locs : List Loc) (ls : Array Slot), K3 σ x1 x2 x3 x4 → Hs D ct ad L φ N0 s.heap σ H locs → lv_has ls 7 [(0, .ref (ad 5 0)), (1, .int (iv x1)), (2, .int (iv x2)), (3, .int (iv x3)), (4, .int (iv x4))] → W p l e ({ frames := 1, cells := 0, slots := 0, locals := 20 } : Room) s m args below meth c H locs 0 0 (MQ below (Qv D ct ad L φ N0 Q) args s 0 0 (AA N0)) (F0 m 3 ls [])) (σ : St) (x1 : Int) (x2 : Int) (x3 : Int) (x4 : Int) (x5 : Int) (y0 : Int) (H : Heap) (locs : List Loc) (ls : Array Slot) (hw : wp_X5_weighSeason_51 K3 Q σ x1 x2 x3 x4 x5 y0) (h : Hs D ct ad L φ N0 s.heap σ H locs) (hl : lv_has ls 7 [(0, .ref (ad 5 0)), (1, .int (iv x1)), (2, .int (iv x2)), (3, .int (iv x3)), (4, .int (iv x4)), (5, .int (iv x5))]) : W p l e ({ frames := 1, cells := 0, slots := 0, locals := 20 } : Room) s m args below meth c H locs 0 0 (MQ below (Qv D ct ad L φ N0 Q) args s 0 0 (AA N0)) (F0 m 51 ls [.int (iv y0)]) := by
  have hF := X.2.2.2.2.2.2.2.2.1
  unfold wp_X5_weighSeason_51 at hw
  refine lv_istore (lv' := [(6, .int (iv y0)), (0, .ref (ad 5 0)), (1, .int (iv x1)), (2, .int (iv x2)), (3, .int (iv x3)), (4, .int (iv x4)), (5, .int (iv x5))]) X.1 X.2.1 dX5_weighSeason_51 hl (by decide) rfl (fun ls hl => ?_)
  refine lv_aload_n X.1 X.2.1 dX5_weighSeason_53 rfl (lv_at hl 1 rfl) ?_
  refine r_getR (ci := 5) X inw_5 h (hF.1 5 rfl).1 rfl rfl 8 (by decide) kw_392 rfl ((hF.1 5 rfl).2 8) dX5_weighSeason_54 ?_
  refine lv_iload_n X.1 X.2.1 dX5_weighSeason_57 rfl (lv_at hl 2 rfl) ?_
  obtain ⟨g_5, g_6, hw⟩ := hw
  refine r_aaS (n := 4) X h (hF.1 46 rfl).1 rfl ((hF.1 46 rfl).2 _) (by decide) g_5 g_6 dX5_weighSeason_58 ?_
  refine lv_iload X.1 X.2.1 dX5_weighSeason_59 (lv_at hl 5 rfl) ?_
  refine lv_aload_n X.1 X.2.1 dX5_weighSeason_61 rfl (lv_at hl 1 rfl) ?_
  refine r_getR (ci := 5) X inw_5 h (hF.1 5 rfl).1 rfl rfl 6 (by decide) kw_390 rfl ((hF.1 5 rfl).2 6) dX5_weighSeason_62 ?_
  refine lv_iload X.1 X.2.1 dX5_weighSeason_65 (lv_at hl 5 rfl) ?_
  obtain ⟨g_7, g_8, hw⟩ := hw
  refine r_iald (n := 512) X h (hF.1 44 rfl).1 rfl (by decide) g_7 g_8 dX5_weighSeason_67 ?_
  refine lv_iload_n X.1 X.2.1 dX5_weighSeason_68 rfl (lv_at hl 4 rfl) ?_
  obtain ⟨g_9, g_10, hwt, hwf⟩ := hw
  refine j_cmp_le (tgt := 77) X g_9 g_10 dX5_weighSeason_69 (by decide) (fun c_11 => ?_) (fun c_11 => ?_)
  · have hw := hwt c_11
    refine lv_iload_n X.1 X.2.1 dX5_weighSeason_77 rfl (lv_at hl 3 rfl) ?_
    refine lv_iload X.1 X.2.1 dX5_weighSeason_78 (lv_at hl 6 rfl) ?_
    refine j_imul X dX5_weighSeason_80 ?_
    refine lv_iload X.1 X.2.1 dX5_weighSeason_81 (lv_at hl 0 rfl) ?_
    refine j_iadd X dX5_weighSeason_83 ?_
    exact lb_X5_weighSeason_84 X hK3 σ x1 x2 x3 x4 ((x2 * x5) + y0) x4 (Int.toNat x1) _ _ _ hw h (lv_sub hl [1, 2, 3, 4, 5] rfl)
  · have hw := hwf c_11
    refine j_ldc (n := 100000000) X kw_1370 (by decide) dX5_weighSeason_72 ?_
    refine lv_goto (tgt := 84) X.1 X.2.1 dX5_weighSeason_74 (by decide) ?_
    exact lb_X5_weighSeason_84 X hK3 σ x1 x2 x3 x4 100000000 x4 (Int.toNat x1) _ _ _ hw h (lv_sub hl [1, 2, 3, 4, 5] rfl)
set_option maxRecDepth 100000 in
set_option maxHeartbeats 4000000 in
theorem lb_X5_weighSeason_3 (X : Cx p s m meth c args cX5_weighSeason 7 none RX5 D ct L φ N0) : ∀ (n : Nat) (σ : St) (x1 : Int) (x2 : Int) (x3 : Int) (x4 : Int) (H : Heap) (locs : List Loc) (ls : Array Slot), wp_X5_weighSeason_3 Q n σ x1 x2 x3 x4 → Hs D ct ad L φ N0 s.heap σ H locs → lv_has ls 7 [(0, .ref (ad 5 0)), (1, .int (iv x1)), (2, .int (iv x2)), (3, .int (iv x3)), (4, .int (iv x4))] → W p l e ({ frames := 1, cells := 0, slots := 0, locals := 20 } : Room) s m args below meth c H locs 0 0 (MQ below (Qv D ct ad L φ N0 Q) args s 0 0 (AA N0)) (F0 m 3 ls []) := by
  have hF := X.2.2.2.2.2.2.2.2.1
  intro n
  induction n with
  | zero => intro σ x1 x2 x3 x4 H locs ls hw; exact hw.elim
  | succ n ih =>
    intro σ x1 x2 x3 x4 H locs ls hw h hl
    unfold wp_X5_weighSeason_3 at hw
    refine lv_iload X.1 X.2.1 dX5_weighSeason_3 (lv_at hl 4 rfl) ?_
    refine j_iconst X dX5_weighSeason_5 ?_
    refine lv_aload_n X.1 X.2.1 dX5_weighSeason_6 rfl (lv_at hl 0 rfl) ?_
    refine r_get (ci := 5) X inw_5 h (hF.1 5 rfl).1 rfl rfl 3 (by decide) kw_385 rfl dX5_weighSeason_7 ?_
    refine j_ishl X dX5_weighSeason_10 ?_
    obtain ⟨g_12, g_13, hwt, hwf⟩ := hw
    refine j_cmp_ge (tgt := 91) X g_12 g_13 dX5_weighSeason_11 (by decide) (fun c_24 => ?_) (fun c_24 => ?_)
    · have hw := hwt c_24
      exact k_vr X h hw dX5_weighSeason_91
    · have hw := hwf c_24
      refine lv_aload_n X.1 X.2.1 dX5_weighSeason_14 rfl (lv_at hl 0 rfl) ?_
      refine r_getR (ci := 5) X inw_5 h (hF.1 5 rfl).1 rfl rfl 4 (by decide) kw_387 rfl ((hF.1 5 rfl).2 4) dX5_weighSeason_15 ?_
      refine lv_iload_n X.1 X.2.1 dX5_weighSeason_18 rfl (lv_at hl 1 rfl) ?_
      obtain ⟨g_14, g_15, hw⟩ := hw
      refine r_iald (n := 4) X h (hF.1 42 rfl).1 rfl (by decide) g_14 g_15 dX5_weighSeason_19 ?_
      refine lv_aload_n X.1 X.2.1 dX5_weighSeason_20 rfl (lv_at hl 0 rfl) ?_
      refine r_getR (ci := 5) X inw_5 h (hF.1 5 rfl).1 rfl rfl 5 (by decide) kw_389 rfl ((hF.1 5 rfl).2 5) dX5_weighSeason_21 ?_
      refine lv_iload X.1 X.2.1 dX5_weighSeason_24 (lv_at hl 4 rfl) ?_
      obtain ⟨g_16, g_17, hw⟩ := hw
      refine r_iald (n := 512) X h (hF.1 43 rfl).1 rfl (by decide) g_16 g_17 dX5_weighSeason_26 ?_
      refine j_iconst X dX5_weighSeason_27 ?_
      refine j_ixor X dX5_weighSeason_28 ?_
      refine j_iand X dX5_weighSeason_29 ?_
      refine k_i h (r_S (As := [.int (iv (i_iand (σ 42 0 (Int.toNat x1)) (i_ixor (σ 43 0 (Int.toNat x4)) (-1))))]) (rest := []) X h (c_J6_bitCount_0f7a4 l D ct ad L φ N0 σ (i_iand (σ 42 0 (Int.toNat x1)) (i_ixor (σ 43 0 (Int.toNat x4)) (-1))) _ hw) rfl rfl ⟨Nat.le_of_ble_eq_true rfl, Nat.le_of_ble_eq_true rfl⟩ kw_1364 kw_1365 kw_143 kw_1366 pd_J6_bitCount_0f7a4 rfl hl.1 rfl (Nat.le_of_ble_eq_true rfl) ⟨Nat.le_of_ble_eq_true rfl, Nat.le_of_ble_eq_true rfl⟩ dX5_weighSeason_30) (fun r_19 σ_18 H locs hw h => ?_)
      refine lv_istore (lv' := [(5, .int (iv r_19)), (0, .ref (ad 5 0)), (1, .int (iv x1)), (2, .int (iv x2)), (3, .int (iv x3)), (4, .int (iv x4))]) X.1 X.2.1 dX5_weighSeason_33 hl (by decide) rfl (fun ls hl => ?_)
      refine lv_iload_n X.1 X.2.1 dX5_weighSeason_35 rfl (lv_at hl 2 rfl) ?_
      refine j_iconst X dX5_weighSeason_36 ?_
      obtain ⟨g_20, hwt, hwf⟩ := hw
      refine j_cmp_ne (tgt := 44) X g_20 ⟨by decide, by decide⟩ dX5_weighSeason_37 (by decide) (fun c_23 => ?_) (fun c_23 => ?_)
      · have hw := hwt c_23
        refine lv_aload_n X.1 X.2.1 dX5_weighSeason_44 rfl (lv_at hl 1 rfl) ?_
        refine r_getR (ci := 5) X inw_5 h (hF.1 5 rfl).1 rfl rfl 9 (by decide) kw_393 rfl ((hF.1 5 rfl).2 9) dX5_weighSeason_45 ?_
        refine lv_iload X.1 X.2.1 dX5_weighSeason_48 (lv_at hl 5 rfl) ?_
        obtain ⟨g_21, g_22, hw⟩ := hw
        refine r_iald (n := 512) X h (hF.1 48 rfl).1 rfl (by decide) g_21 g_22 dX5_weighSeason_50 ?_
        exact lb_X5_weighSeason_51 X ih σ_18 x1 x2 x3 x4 r_19 (σ_18 48 0 (Int.toNat x4)) _ _ _ hw h (lv_sub hl [1, 2, 3, 4, 5, 0] rfl)
      · have hw := hwf c_23
        refine j_iconst X dX5_weighSeason_40 ?_
        refine lv_goto (tgt := 51) X.1 X.2.1 dX5_weighSeason_41 (by decide) ?_
        exact lb_X5_weighSeason_51 X ih σ_18 x1 x2 x3 x4 r_19 0 _ _ _ hw h (lv_sub hl [1, 2, 3, 4, 5, 0] rfl)
theorem pd_X5_weighSeason : yX5_weighSeason.cls ≠ "java/lang/invoke/MethodHandle" ∧ yX5_weighSeason.cls ≠ "java/lang/invoke/VarHandle" ∧ (parseMethodDescriptor yX5_weighSeason.desc).map (fun d => d.parameters.length) = some 3 := by decide +kernel
set_option maxRecDepth 100000 in
set_option maxHeartbeats 4000000 in
theorem c_X5_weighSeason (l : Launch) (D : va_G) (ct : Nat → ClassId) (ad : Nat → Nat → Nat) (L : List (Nat × Nat)) (φ : Nat → Nat → Nat → Bool) (N0 : Nat) (σ : St) (x1 : Int) (x2 : Int) (x3 : Int) (Q : St → Prop) (hw : wp_X5_weighSeason σ x1 x2 x3 Q) : Met l yX5_weighSeason (.code yX5_weighSeason cX5_weighSeason 7 none :: gw) ({ frames := 1, cells := 0, slots := 0, locals := 20 } : Room) (Pm D ct ad L φ N0 σ [.ref (ad 5 0), .int (iv x1), .int (iv x2), .int (iv x3)]) (Qv D ct ad L φ N0 Q) 0 0 (AA N0) := by
  refine m_of (by decide) (fun p e s m below meth c X hnm h => ?_)
  have hF := X.2.2.2.2.2.2.2.2.1
  have hl := lv_entry ([.ref (ad 5 0), .int (iv x1), .int (iv x2), .int (iv x3)]) (n := 7) (Nat.le_of_ble_eq_true rfl)
  rw [lg_entry_eq]
  generalize (lg_sl ([.ref (ad 5 0), .int (iv x1), .int (iv x2), .int (iv x3)]) ++ List.replicate (7 - (lg_sl ([.ref (ad 5 0), .int (iv x1), .int (iv x2), .int (iv x3)])).length) Slot.unset).toArray = ls at hl ⊢
  have hl : lv_has ls 7 [(0, .ref (ad 5 0)), (1, .int (iv x1)), (2, .int (iv x2)), (3, .int (iv x3))] := hl
  have h : Hs D ct ad L φ N0 s.heap σ s.heap [] := h
  unfold wp_X5_weighSeason at hw
  refine j_iconst X dX5_weighSeason_0 ?_
  refine lv_istore (lv' := [(4, .int (iv 0)), (0, .ref (ad 5 0)), (1, .int (iv x1)), (2, .int (iv x2)), (3, .int (iv x3))]) X.1 X.2.1 dX5_weighSeason_1 hl (by decide) rfl (fun ls hl => ?_)
  exact hw.elim (fun n3 hw => lb_X5_weighSeason_3 X n3 σ x1 x2 x3 0 _ _ _ hw h (lv_sub hl [1, 2, 3, 4, 0] rfl))
end
section
variable {p : Program} {l : Launch} {e : Env} {s : State} {m : MethodId} {args : Array Value} {below : List Frame} {meth : Method} {c : Code} {D : va_G} {ct : Nat → ClassId} {ad : Nat → Nat → Nat} {L : List (Nat × Nat)} {φ : Nat → Nat → Nat → Bool} {N0 : Nat}
variable {Q : St → Prop}
set_option maxRecDepth 100000 in
set_option maxHeartbeats 4000000 in
theorem lb_X5_lookAhead_120 (X : Cx p s m meth c args cX5_lookAhead 8 none RX5 D ct L φ N0) {K25 : St → Int → Int → Prop} (hK25 : ∀ (σ : St) (x2 : Int) (x3 : Int) (H : Heap) (locs : List Loc) (ls : Array Slot), K25 σ x2 x3 → Hs D ct ad L φ N0 s.heap σ H locs → lv_has ls 8 [(0, .ref (ad 5 0)), (2, .int (iv x2)), (3, .int (iv x3))] → W p l e ({ frames := 1, cells := 0, slots := 0, locals := 26 } : Room) s m args below meth c H locs 0 0 (MQ below (Qv D ct ad L φ N0 Q) args s 0 0 (AA N0)) (F0 m 25 ls [])) (σ : St) (x2 : Int) (x3 : Int) (H : Heap) (locs : List Loc) (ls : Array Slot) (hw : wp_X5_lookAhead_120 K25 Q σ x2 x3) (h : Hs D ct ad L φ N0 s.heap σ H locs) (hl : lv_has ls 8 [(0, .ref (ad 5 0)), (2, .int (iv x2)), (3, .int (iv x3))]) : W p l e ({ frames := 1, cells := 0, slots := 0, locals := 26 } : Room) s m args below meth c H locs 0 0 (MQ below (Qv D ct ad L φ N0 Q) args s 0 0 (AA N0)) (F0 m 120 ls []) := by
  have hF := X.2.2.2.2.2.2.2.2.1
  unfold wp_X5_lookAhead_120 at hw
  refine j_iinc (kk9 := 2) (lv' := [(3, .int (iv (x3 + 1))), (0, .ref (ad 5 0)), (2, .int (iv x2))]) X dX5_lookAhead_120 hl rfl (by decide) rfl (fun ls hl => ?_)
  refine lv_goto (tgt := 25) X.1 X.2.1 dX5_lookAhead_123 (by decide) ?_
  exact hK25 σ x2 (x3 + 1) _ _ _ hw h (lv_sub hl [1, 2, 0] rfl)
set_option maxRecDepth 100000 in
set_option maxHeartbeats 4000000 in
theorem lb_X5_lookAhead_114 (X : Cx p s m meth c args cX5_lookAhead 8 none RX5 D ct L φ N0) {K41 : St → Int → Int → Int → Int → Prop} {K120 : St → Int → Int → Prop} (hK41 : ∀ (σ : St) (x2 : Int) (x3 : Int) (x4 : Int) (x5 : Int) (H : Heap) (locs : List Loc) (ls : Array Slot), K41 σ x2 x3 x4 x5 → Hs D ct ad L φ N0 s.heap σ H locs → lv_has ls 8 [(0, .ref (ad 5 0)), (2, .int (iv x2)), (3, .int (iv x3)), (4, .int (iv x4)), (5, .int (iv x5))] → W p l e ({ frames := 1, cells := 0, slots := 0, locals := 26 } : Room) s m args below meth c H locs 0 0 (MQ below (Qv D ct ad L φ N0 Q) args s 0 0 (AA N0)) (F0 m 41 ls [])) (hK120 : ∀ (σ : St) (x2 : Int) (x3 : Int) (H : Heap) (locs : List Loc) (ls : Array Slot), K120 σ x2 x3 → Hs D ct ad L φ N0 s.heap σ H locs → lv_has ls 8 [(0, .ref (ad 5 0)), (2, .int (iv x2)), (3, .int (iv x3))] → W p l e ({ frames := 1, cells := 0, slots := 0, locals := 26 } : Room) s m args below meth c H locs 0 0 (MQ below (Qv D ct ad L φ N0 Q) args s 0 0 (AA N0)) (F0 m 120 ls [])) (σ : St) (x2 : Int) (x3 : Int) (x4 : Int) (x5 : Int) (H : Heap) (locs : List Loc) (ls : Array Slot) (hw : wp_X5_lookAhead_114 K41 K120 Q σ x2 x3 x4 x5) (h : Hs D ct ad L φ N0 s.heap σ H locs) (hl : lv_has ls 8 [(0, .ref (ad 5 0)), (2, .int (iv x2)), (3, .int (iv x3)), (4, .int (iv x4)), (5, .int (iv x5))]) : W p l e ({ frames := 1, cells := 0, slots := 0, locals := 26 } : Room) s m args below meth c H locs 0 0 (MQ below (Qv D ct ad L φ N0 Q) args s 0 0 (AA N0)) (F0 m 114 ls []) := by
  have hF := X.2.2.2.2.2.2.2.2.1
  unfold wp_X5_lookAhead_114 at hw
  refine j_iinc (kk9 := 4) (lv' := [(5, .int (iv (x5 + 1))), (0, .ref (ad 5 0)), (2, .int (iv x2)), (3, .int (iv x3)), (4, .int (iv x4))]) X dX5_lookAhead_114 hl rfl (by decide) rfl (fun ls hl => ?_)
  refine lv_goto (tgt := 41) X.1 X.2.1 dX5_lookAhead_117 (by decide) ?_
  exact hK41 σ x2 x3 x4 (x5 + 1) _ _ _ hw h (lv_sub hl [1, 2, 3, 4, 0] rfl)
set_option maxRecDepth 100000 in
set_option maxHeartbeats 4000000 in
theorem lb_X5_lookAhead_41 (X : Cx p s m meth c args cX5_lookAhead 8 none RX5 D ct L φ N0) {K120 : St → Int → Int → Prop} (hK120 : ∀ (σ : St) (x2 : Int) (x3 : Int) (H : Heap) (locs : List Loc) (ls : Array Slot), K120 σ x2 x3 → Hs D ct ad L φ N0 s.heap σ H locs → lv_has ls 8 [(0, .ref (ad 5 0)), (2, .int (iv x2)), (3, .int (iv x3))] → W p l e ({ frames := 1, cells := 0, slots := 0, locals := 26 } : Room) s m args below meth c H locs 0 0 (MQ below (Qv D ct ad L φ N0 Q) args s 0 0 (AA N0)) (F0 m 120 ls [])) : ∀ (n : Nat) (σ : St) (x2 : Int) (x3 : Int) (x4 : Int) (x5 : Int) (H : Heap) (locs : List Loc) (ls : Array Slot), wp_X5_lookAhead_41 K120 Q n σ x2 x3 x4 x5 → Hs D ct ad L φ N0 s.heap σ H locs → lv_has ls 8 [(0, .ref (ad 5 0)), (2, .int (iv x2)), (3, .int (iv x3)), (4, .int (iv x4)), (5, .int (iv x5))] → W p l e ({ frames := 1, cells := 0, slots := 0, locals := 26 } : Room) s m args below meth c H locs 0 0 (MQ below (Qv D ct ad L φ N0 Q) args s 0 0 (AA N0)) (F0 m 41 ls []) := by
  have hF := X.2.2.2.2.2.2.2.2.1
  intro n
  induction n with
  | zero => intro σ x2 x3 x4 x5 H locs ls hw; exact hw.elim
  | succ n ih =>
    intro σ x2 x3 x4 x5 H locs ls hw h hl
    unfold wp_X5_lookAhead_41 at hw
    refine lv_iload X.1 X.2.1 dX5_lookAhead_41 (lv_at hl 4 rfl) ?_
    refine lv_iload_n X.1 X.2.1 dX5_lookAhead_43 rfl (lv_at hl 1 rfl) ?_
    obtain ⟨g_1, g_2, hwt, hwf⟩ := hw
    refine j_cmp_ge (tgt := 120) X g_1 g_2 dX5_lookAhead_44 (by decide) (fun c_23 => ?_) (fun c_23 => ?_)
    · have hw := hwt c_23
      exact hK120 σ x2 x3 _ _ _ hw h (lv_sub hl [0, 1, 2] rfl)
    · have hw := hwf c_23
      refine lv_iload X.1 X.2.1 dX5_lookAhead_47 (lv_at hl 4 rfl) ?_
      refine lv_iload X.1 X.2.1 dX5_lookAhead_49 (lv_at hl 3 rfl) ?_
      refine j_iand X dX5_lookAhead_51 ?_
      obtain ⟨g_3, hwt, hwf⟩ := hw
      refine j_if_ne (tgt := 114) X g_3 dX5_lookAhead_52 (by decide) (fun c_22 => ?_) (fun c_22 => ?_)
      · have hw := hwt c_22
        exact lb_X5_lookAhead_114 X ih hK120 σ x2 x3 x4 x5 _ _ _ hw h (lv_sub hl [0, 1, 2, 3, 4] rfl)
      · have hw := hwf c_22
        refine lv_aload_n X.1 X.2.1 dX5_lookAhead_55 rfl (lv_at hl 0 rfl) ?_
        refine r_getR (ci := 5) X inw_5 h (hF.1 5 rfl).1 rfl rfl 9 (by decide) kw_393 rfl ((hF.1 5 rfl).2 9) dX5_lookAhead_56 ?_
        refine lv_iload X.1 X.2.1 dX5_lookAhead_59 (lv_at hl 4 rfl) ?_
        obtain ⟨g_4, g_5, hw⟩ := hw
        refine r_iald (n := 512) X h (hF.1 48 rfl).1 rfl (by decide) g_4 g_5 dX5_lookAhead_61 ?_
        refine j_bind (fun v_6 ev_6 => ?_)
        have hw := hw v_6 ev_6
        refine lv_istore (lv' := [(6, .int (iv v_6)), (0, .ref (ad 5 0)), (2, .int (iv x2)), (3, .int (iv x3)), (4, .int (iv x4)), (5, .int (iv x5))]) X.1 X.2.1 dX5_lookAhead_62 hl (by decide) rfl (fun ls hl => ?_)
        refine lv_aload_n X.1 X.2.1 dX5_lookAhead_64 rfl (lv_at hl 1 rfl) ?_
        refine r_getR (ci := 5) X inw_5 h (hF.1 5 rfl).1 rfl rfl 9 (by decide) kw_393 rfl ((hF.1 5 rfl).2 9) dX5_lookAhead_65 ?_
        refine lv_iload X.1 X.2.1 dX5_lookAhead_68 (lv_at hl 5 rfl) ?_
        refine lv_iload X.1 X.2.1 dX5_lookAhead_70 (lv_at hl 4 rfl) ?_
        refine j_ior X dX5_lookAhead_72 ?_
        obtain ⟨g_7, g_8, hw⟩ := hw
        refine r_iald (n := 512) X h (hF.1 48 rfl).1 rfl (by decide) g_7 g_8 dX5_lookAhead_73 ?_
        refine j_bind (fun v_9 ev_9 => ?_)
        have hw := hw v_9 ev_9
        refine lv_istore (lv' := [(7, .int (iv v_9)), (6, .int (iv v_6)), (0, .ref (ad 5 0)), (2, .int (iv x2)), (3, .int (iv x3)), (4, .int (iv x4)), (5, .int (iv x5))]) X.1 X.2.1 dX5_lookAhead_74 hl (by decide) rfl (fun ls hl => ?_)
        refine lv_aload_n X.1 X.2.1 dX5_lookAhead_76 rfl (lv_at hl 2 rfl) ?_
        refine r_getR (ci := 5) X inw_5 h (hF.1 5 rfl).1 rfl rfl 9 (by decide) kw_393 rfl ((hF.1 5 rfl).2 9) dX5_lookAhead_77 ?_
        refine lv_iload X.1 X.2.1 dX5_lookAhead_80 (lv_at hl 6 rfl) ?_
        refine lv_iload X.1 X.2.1 dX5_lookAhead_82 (lv_at hl 1 rfl) ?_
        refine lv_iload X.1 X.2.1 dX5_lookAhead_84 (lv_at hl 0 rfl) ?_
        refine lv_aload_n X.1 X.2.1 dX5_lookAhead_86 rfl (lv_at hl 2 rfl) ?_
        refine r_getR (ci := 5) X inw_5 h (hF.1 5 rfl).1 rfl rfl 2 (by decide) kw_384 rfl ((hF.1 5 rfl).2 2) dX5_lookAhead_87 ?_
        refine lv_iload_n X.1 X.2.1 dX5_lookAhead_90 rfl (lv_at hl 4 rfl) ?_
        obtain ⟨g_10, g_11, hw⟩ := hw
        refine r_iald (n := 9) X h (hF.1 41 rfl).1 rfl (by decide) g_10 g_11 dX5_lookAhead_91 ?_
        refine j_iadd X dX5_lookAhead_92 ?_
        refine k_i h (r_S (As := [.int (iv v_6), .int (iv (v_9 + (σ 41 0 (Int.toNat x3))))]) (rest := [.int (iv x5), .ref (ad 48 0)]) X h (c_J9_min_7cf53 l D ct ad L φ N0 σ v_6 (v_9 + (σ 41 0 (Int.toNat x3))) _ hw) rfl rfl ⟨Nat.le_of_ble_eq_true rfl, Nat.le_of_ble_eq_true rfl⟩ kw_1378 kw_918 kw_130 kw_919 pd_J9_min_7cf53 rfl hl.1 rfl (Nat.le_of_ble_eq_true rfl) ⟨Nat.le_of_ble_eq_true rfl, Nat.le_of_ble_eq_true rfl⟩ dX5_lookAhead_93) (fun r_13 σ_12 H locs hw h => ?_)
        obtain ⟨g_14, g_15, hw⟩ := hw
        refine r_iast (n := 512) X h (hF.1 48 rfl).1 (fun _ => rfl) (by decide) g_14 g_15 rfl dX5_lookAhead_96 (fun H locs h => ?_)
        obtain ⟨σ_16, eσ_16⟩ : ∃ z : St, z = st σ_12 48 0 (Int.toNat x5) r_13 := ⟨_, rfl⟩
        rw [← eσ_16] at h
        have hw := hw σ_16 eσ_16
        refine lv_aload_n X.1 X.2.1 dX5_lookAhead_97 rfl (lv_at hl 2 rfl) ?_
        refine r_getR (ci := 5) X inw_5 h (hF.1 5 rfl).1 rfl rfl 9 (by decide) kw_393 rfl ((hF.1 5 rfl).2 9) dX5_lookAhead_98 ?_
        refine lv_iload X.1 X.2.1 dX5_lookAhead_101 (lv_at hl 6 rfl) ?_
        refine lv_iload X.1 X.2.1 dX5_lookAhead_103 (lv_at hl 5 rfl) ?_
        refine j_ior X dX5_lookAhead_105 ?_
        refine lv_iload X.1 X.2.1 dX5_lookAhead_106 (lv_at hl 1 rfl) ?_
        refine lv_iload X.1 X.2.1 dX5_lookAhead_108 (lv_at hl 0 rfl) ?_
        refine k_i h (r_S (As := [.int (iv v_6), .int (iv v_9)]) (rest := [.int (iv (i_ior x5 x4)), .ref (ad 48 0)]) X h (c_J9_min_7cf53 l D ct ad L φ N0 σ_16 v_6 v_9 _ hw) rfl rfl ⟨Nat.le_of_ble_eq_true rfl, Nat.le_of_ble_eq_true rfl⟩ kw_1378 kw_918 kw_130 kw_919 pd_J9_min_7cf53 rfl hl.1 rfl (Nat.le_of_ble_eq_true rfl) ⟨Nat.le_of_ble_eq_true rfl, Nat.le_of_ble_eq_true rfl⟩ dX5_lookAhead_110) (fun r_18 σ_17 H locs hw h => ?_)
        obtain ⟨g_19, g_20, hw⟩ := hw
        refine r_iast (n := 512) X h (hF.1 48 rfl).1 (fun _ => rfl) (by decide) g_19 g_20 rfl dX5_lookAhead_113 (fun H locs h => ?_)
        obtain ⟨σ_21, eσ_21⟩ : ∃ z : St, z = st σ_17 48 0 (Int.toNat (i_ior x5 x4)) r_18 := ⟨_, rfl⟩
        rw [← eσ_21] at h
        have hw := hw σ_21 eσ_21
        exact lb_X5_lookAhead_114 X ih hK120 σ_21 x2 x3 x4 x5 _ _ _ hw h (lv_sub hl [2, 3, 4, 5, 6] rfl)
set_option maxRecDepth 100000 in
set_option maxHeartbeats 4000000 in
theorem lb_X5_lookAhead_25 (X : Cx p s m meth c args cX5_lookAhead 8 none RX5 D ct L φ N0) : ∀ (n : Nat) (σ : St) (x2 : Int) (x3 : Int) (H : Heap) (locs : List Loc) (ls : Array Slot), wp_X5_lookAhead_25 Q n σ x2 x3 → Hs D ct ad L φ N0 s.heap σ H locs → lv_has ls 8 [(0, .ref (ad 5 0)), (2, .int (iv x2)), (3, .int (iv x3))] → W p l e ({ frames := 1, cells := 0, slots := 0, locals := 26 } : Room) s m args below meth c H locs 0 0 (MQ below (Qv D ct ad L φ N0 Q) args s 0 0 (AA N0)) (F0 m 25 ls []) := by
  have hF := X.2.2.2.2.2.2.2.2.1
  intro n
  induction n with
  | zero => intro σ x2 x3 H locs ls hw; exact hw.elim
  | succ n ih =>
    intro σ x2 x3 H locs ls hw h hl
    unfold wp_X5_lookAhead_25 at hw
    refine lv_iload_n X.1 X.2.1 dX5_lookAhead_25 rfl (lv_at hl 2 rfl) ?_
    refine lv_aload_n X.1 X.2.1 dX5_lookAhead_26 rfl (lv_at hl 0 rfl) ?_
    refine r_get (ci := 5) X inw_5 h (hF.1 5 rfl).1 rfl rfl 3 (by decide) kw_385 rfl dX5_lookAhead_27 ?_
    obtain ⟨g_24, g_25, hwt, hwf⟩ := hw
    refine j_cmp_ge (tgt := 126) X g_24 g_25 dX5_lookAhead_30 (by decide) (fun c_27 => ?_) (fun c_27 => ?_)
    · have hw := hwt c_27
      exact k_vr X h hw dX5_lookAhead_126
    · have hw := hwf c_27
      refine j_iconst X dX5_lookAhead_33 ?_
      refine lv_iload_n X.1 X.2.1 dX5_lookAhead_34 rfl (lv_at hl 2 rfl) ?_
      refine j_ishl X dX5_lookAhead_35 ?_
      refine j_bind (fun v_26 ev_26 => ?_)
      have hw := hw v_26 ev_26
      refine lv_istore (lv' := [(4, .int (iv v_26)), (0, .ref (ad 5 0)), (2, .int (iv x2)), (3, .int (iv x3))]) X.1 X.2.1 dX5_lookAhead_36 hl (by decide) rfl (fun ls hl => ?_)
      refine j_iconst X dX5_lookAhead_38 ?_
      refine lv_istore (lv' := [(5, .int (iv 0)), (4, .int (iv v_26)), (0, .ref (ad 5 0)), (2, .int (iv x2)), (3, .int (iv x3))]) X.1 X.2.1 dX5_lookAhead_39 hl (by decide) rfl (fun ls hl => ?_)
      exact hw.elim (fun n41 hw => lb_X5_lookAhead_41 X (lb_X5_lookAhead_120 X ih) n41 σ x2 x3 v_26 0 _ _ _ hw h (lv_sub hl [2, 3, 4, 1, 0] rfl))
theorem pd_X5_lookAhead : yX5_lookAhead.cls ≠ "java/lang/invoke/MethodHandle" ∧ yX5_lookAhead.cls ≠ "java/lang/invoke/VarHandle" ∧ (parseMethodDescriptor yX5_lookAhead.desc).map (fun d => d.parameters.length) = some 1 := by decide +kernel
set_option maxRecDepth 100000 in
set_option maxHeartbeats 4000000 in
theorem c_X5_lookAhead (l : Launch) (D : va_G) (ct : Nat → ClassId) (ad : Nat → Nat → Nat) (L : List (Nat × Nat)) (φ : Nat → Nat → Nat → Bool) (N0 : Nat) (σ : St) (x1 : Int) (Q : St → Prop) (hw : wp_X5_lookAhead σ x1 Q) : Met l yX5_lookAhead (.code yX5_lookAhead cX5_lookAhead 8 none :: gw) ({ frames := 1, cells := 0, slots := 0, locals := 26 } : Room) (Pm D ct ad L φ N0 σ [.ref (ad 5 0), .int (iv x1)]) (Qv D ct ad L φ N0 Q) 0 0 (AA N0) := by
  refine m_of (by decide) (fun p e s m below meth c X hnm h => ?_)
  have hF := X.2.2.2.2.2.2.2.2.1
  have hl := lv_entry ([.ref (ad 5 0), .int (iv x1)]) (n := 8) (Nat.le_of_ble_eq_true rfl)
  rw [lg_entry_eq]
  generalize (lg_sl ([.ref (ad 5 0), .int (iv x1)]) ++ List.replicate (8 - (lg_sl ([.ref (ad 5 0), .int (iv x1)])).length) Slot.unset).toArray = ls at hl ⊢
  have hl : lv_has ls 8 [(0, .ref (ad 5 0)), (1, .int (iv x1))] := hl
  have h : Hs D ct ad L φ N0 s.heap σ s.heap [] := h
  unfold wp_X5_lookAhead at hw
  refine j_iconst X dX5_lookAhead_0 ?_
  refine lv_aload_n X.1 X.2.1 dX5_lookAhead_1 rfl (lv_at hl 0 rfl) ?_
  refine r_get (ci := 5) X inw_5 h (hF.1 5 rfl).1 rfl rfl 3 (by decide) kw_385 rfl dX5_lookAhead_2 ?_
  refine j_ishl X dX5_lookAhead_5 ?_
  refine j_bind (fun v_28 ev_28 => ?_)
  have hw := hw v_28 ev_28
  refine lv_istore_n (lv' := [(2, .int (iv v_28)), (0, .ref (ad 5 0)), (1, .int (iv x1))]) X.1 X.2.1 dX5_lookAhead_6 rfl hl (by decide) rfl (fun ls hl => ?_)
  refine lv_aload_n X.1 X.2.1 dX5_lookAhead_7 rfl (lv_at hl 1 rfl) ?_
  refine r_getR (ci := 5) X inw_5 h (hF.1 5 rfl).1 rfl rfl 8 (by decide) kw_392 rfl ((hF.1 5 rfl).2 8) dX5_lookAhead_8 ?_
  refine lv_iload_n X.1 X.2.1 dX5_lookAhead_11 rfl (lv_at hl 2 rfl) ?_
  obtain ⟨g_29, g_30, hw⟩ := hw
  refine r_aaS (n := 4) X h (hF.1 46 rfl).1 rfl ((hF.1 46 rfl).2 _) (by decide) g_29 g_30 dX5_lookAhead_12 ?_
  refine j_iconst X dX5_lookAhead_13 ?_
  refine lv_aload_n X.1 X.2.1 dX5_lookAhead_14 rfl (lv_at hl 1 rfl) ?_
  refine r_getR (ci := 5) X inw_5 h (hF.1 5 rfl).1 rfl rfl 9 (by decide) kw_393 rfl ((hF.1 5 rfl).2 9) dX5_lookAhead_15 ?_
  refine j_iconst X dX5_lookAhead_18 ?_
  refine lv_iload_n X.1 X.2.1 dX5_lookAhead_19 rfl (lv_at hl 0 rfl) ?_
  obtain ⟨g_31, g_32, g_33, g_34, hw⟩ := hw
  refine r_copy (n1 := 512) (n2 := 512) X h (hF.2.1 (Int.toNat x1) g_31) (hF.1 48 rfl).1 rfl (fun _ => rfl) kw_1375 kw_1377 kw_1376 kw_144 g_32 g_33 g_34 (by decide) rfl hl.1 (Nat.le_of_ble_eq_true rfl) (Nat.le_of_ble_eq_true rfl) dX5_lookAhead_20 (fun H locs h => ?_)
  obtain ⟨σ_35, eσ_35⟩ : ∃ z : St, z = sta σ 48 0 (cpf (σ 47 (Int.toNat x1)) (σ 48 0) (Int.toNat v_28)) := ⟨_, rfl⟩
  rw [← eσ_35] at h
  have hw := hw σ_35 eσ_35
  refine j_iconst X dX5_lookAhead_23 ?_
  refine lv_istore_n (lv' := [(3, .int (iv 0)), (2, .int (iv v_28)), (0, .ref (ad 5 0)), (1, .int (iv x1))]) X.1 X.2.1 dX5_lookAhead_24 rfl hl (by decide) rfl (fun ls hl => ?_)
  exact hw.elim (fun n25 hw => lb_X5_lookAhead_25 X n25 σ_35 v_28 0 _ _ _ hw h (lv_sub hl [2, 1, 0] rfl))
end
section
variable {p : Program} {l : Launch} {e : Env} {s : State} {m : MethodId} {args : Array Value} {below : List Frame} {meth : Method} {c : Code} {D : va_G} {ct : Nat → ClassId} {ad : Nat → Nat → Nat} {L : List (Nat × Nat)} {φ : Nat → Nat → Nat → Bool} {N0 : Nat}
variable {Q : Int → St → Prop}
theorem pd_X5_costBehind : yX5_costBehind.cls ≠ "java/lang/invoke/MethodHandle" ∧ yX5_costBehind.cls ≠ "java/lang/invoke/VarHandle" ∧ (parseMethodDescriptor yX5_costBehind.desc).map (fun d => d.parameters.length) = some 3 := by decide +kernel
set_option maxRecDepth 100000 in
set_option maxHeartbeats 4000000 in
theorem c_X5_costBehind (l : Launch) (D : va_G) (ct : Nat → ClassId) (ad : Nat → Nat → Nat) (L : List (Nat × Nat)) (φ : Nat → Nat → Nat → Bool) (N0 : Nat) (σ : St) (x1 : Int) (x2 : Int) (x3 : Int) (Q : Int → St → Prop) (hw : wp_X5_costBehind σ x1 x2 x3 Q) : Met l yX5_costBehind (.code yX5_costBehind cX5_costBehind 4 (some .int) :: gw) ({ frames := 0, cells := 0, slots := 0, locals := 0 } : Room) (Pm D ct ad L φ N0 σ [.ref (ad 5 0), .int (iv x1), .int (iv x2), .int (iv x3)]) (Qi D ct ad L φ N0 Q) 0 0 (AA N0) := by
  refine m_of (by decide) (fun p e s m below meth c X hnm h => ?_)
  have hF := X.2.2.2.2.2.2.2.2.1
  have hl := lv_entry ([.ref (ad 5 0), .int (iv x1), .int (iv x2), .int (iv x3)]) (n := 4) (Nat.le_of_ble_eq_true rfl)
  rw [lg_entry_eq]
  generalize (lg_sl ([.ref (ad 5 0), .int (iv x1), .int (iv x2), .int (iv x3)]) ++ List.replicate (4 - (lg_sl ([.ref (ad 5 0), .int (iv x1), .int (iv x2), .int (iv x3)])).length) Slot.unset).toArray = ls at hl ⊢
  have hl : lv_has ls 4 [(0, .ref (ad 5 0)), (1, .int (iv x1)), (2, .int (iv x2)), (3, .int (iv x3))] := hl
  have h : Hs D ct ad L φ N0 s.heap σ s.heap [] := h
  unfold wp_X5_costBehind at hw
  refine lv_aload_n X.1 X.2.1 dX5_costBehind_0 rfl (lv_at hl 0 rfl) ?_
  refine r_getR (ci := 5) X inw_5 h (hF.1 5 rfl).1 rfl rfl 8 (by decide) kw_392 rfl ((hF.1 5 rfl).2 8) dX5_costBehind_1 ?_
  refine lv_iload_n X.1 X.2.1 dX5_costBehind_4 rfl (lv_at hl 1 rfl) ?_
  obtain ⟨g_1, g_2, hw⟩ := hw
  refine r_aaS (n := 4) X h (hF.1 46 rfl).1 rfl ((hF.1 46 rfl).2 _) (by decide) g_1 g_2 dX5_costBehind_5 ?_
  refine lv_iload_n X.1 X.2.1 dX5_costBehind_6 rfl (lv_at hl 3 rfl) ?_
  obtain ⟨g_3, g_4, g_5, hw⟩ := hw
  refine r_iald (n := 512) X h (hF.2.1 (Int.toNat x1) g_3) rfl (by decide) g_4 g_5 dX5_costBehind_7 ?_
  refine lv_aload_n X.1 X.2.1 dX5_costBehind_8 rfl (lv_at hl 0 rfl) ?_
  refine r_getR (ci := 5) X inw_5 h (hF.1 5 rfl).1 rfl rfl 7 (by decide) kw_391 rfl ((hF.1 5 rfl).2 7) dX5_costBehind_9 ?_
  refine lv_iload_n X.1 X.2.1 dX5_costBehind_12 rfl (lv_at hl 3 rfl) ?_
  refine lv_iload_n X.1 X.2.1 dX5_costBehind_13 rfl (lv_at hl 2 rfl) ?_
  refine j_iconst X dX5_costBehind_14 ?_
  refine j_ixor X dX5_costBehind_15 ?_
  refine j_iand X dX5_costBehind_16 ?_
  obtain ⟨g_6, g_7, hw⟩ := hw
  refine r_iald (n := 512) X h (hF.1 45 rfl).1 rfl (by decide) g_6 g_7 dX5_costBehind_17 ?_
  refine j_iadd X dX5_costBehind_18 ?_
  exact k_ir X rfl h hw dX5_costBehind_19
end
section
variable {p : Program} {l : Launch} {e : Env} {s : State} {m : MethodId} {args : Array Value} {below : List Frame} {meth : Method} {c : Code} {D : va_G} {ct : Nat → ClassId} {ad : Nat → Nat → Nat} {L : List (Nat × Nat)} {φ : Nat → Nat → Nat → Bool} {N0 : Nat}
variable {Q : Int → St → Prop}
set_option maxRecDepth 100000 in
set_option maxHeartbeats 4000000 in
theorem lb_X5_firstBest_37 (X : Cx p s m meth c args cX5_firstBest 5 (some .int) RX5 D ct L φ N0) {K5 : St → Int → Int → Int → Int → Prop} (hK5 : ∀ (σ : St) (x1 : Int) (x2 : Int) (x3 : Int) (x4 : Int) (H : Heap) (locs : List Loc) (ls : Array Slot), K5 σ x1 x2 x3 x4 → Hs D ct ad L φ N0 s.heap σ H locs → lv_has ls 5 [(0, .ref (ad 5 0)), (1, .int (iv x1)), (2, .int (iv x2)), (3, .int (iv x3)), (4, .int (iv x4))] → W p l e ({ frames := 1, cells := 0, slots := 0, locals := 23 } : Room) s m args below meth c H locs 0 0 (MQ below (Qi D ct ad L φ N0 Q) args s 0 0 (AA N0)) (F0 m 5 ls [])) (σ : St) (x1 : Int) (x2 : Int) (x3 : Int) (x4 : Int) (H : Heap) (locs : List Loc) (ls : Array Slot) (hw : wp_X5_firstBest_37 K5 Q σ x1 x2 x3 x4) (h : Hs D ct ad L φ N0 s.heap σ H locs) (hl : lv_has ls 5 [(0, .ref (ad 5 0)), (1, .int (iv x1)), (2, .int (iv x2)), (3, .int (iv x3)), (4, .int (iv x4))]) : W p l e ({ frames := 1, cells := 0, slots := 0, locals := 23 } : Room) s m args below meth c H locs 0 0 (MQ below (Qi D ct ad L φ N0 Q) args s 0 0 (AA N0)) (F0 m 37 ls []) := by
  have hF := X.2.2.2.2.2.2.2.2.1
  unfold wp_X5_firstBest_37 at hw
  refine j_iinc (kk9 := 4) (lv' := [(4, .int (iv (x4 + 1))), (0, .ref (ad 5 0)), (1, .int (iv x1)), (2, .int (iv x2)), (3, .int (iv x3))]) X dX5_firstBest_37 hl rfl (by decide) rfl (fun ls hl => ?_)
  refine lv_goto (tgt := 5) X.1 X.2.1 dX5_firstBest_40 (by decide) ?_
  exact hK5 σ x1 x2 x3 (x4 + 1) _ _ _ hw h (lv_sub hl [1, 2, 3, 4, 0] rfl)
set_option maxRecDepth 100000 in
set_option maxHeartbeats 4000000 in
theorem lb_X5_firstBest_5 (X : Cx p s m meth c args cX5_firstBest 5 (some .int) RX5 D ct L φ N0) : ∀ (n : Nat) (σ : St) (x1 : Int) (x2 : Int) (x3 : Int) (x4 : Int) (H : Heap) (locs : List Loc) (ls : Array Slot), wp_X5_firstBest_5 Q n σ x1 x2 x3 x4 → Hs D ct ad L φ N0 s.heap σ H locs → lv_has ls 5 [(0, .ref (ad 5 0)), (1, .int (iv x1)), (2, .int (iv x2)), (3, .int (iv x3)), (4, .int (iv x4))] → W p l e ({ frames := 1, cells := 0, slots := 0, locals := 23 } : Room) s m args below meth c H locs 0 0 (MQ below (Qi D ct ad L φ N0 Q) args s 0 0 (AA N0)) (F0 m 5 ls []) := by
  have hF := X.2.2.2.2.2.2.2.2.1
  intro n
  induction n with
  | zero => intro σ x1 x2 x3 x4 H locs ls hw; exact hw.elim
  | succ n ih =>
    intro σ x1 x2 x3 x4 H locs ls hw h hl
    unfold wp_X5_firstBest_5 at hw
    refine lv_iload X.1 X.2.1 dX5_firstBest_5 (lv_at hl 4 rfl) ?_
    refine j_iconst X dX5_firstBest_7 ?_
    refine lv_aload_n X.1 X.2.1 dX5_firstBest_8 rfl (lv_at hl 0 rfl) ?_
    refine r_get (ci := 5) X inw_5 h (hF.1 5 rfl).1 rfl rfl 3 (by decide) kw_385 rfl dX5_firstBest_9 ?_
    refine j_ishl X dX5_firstBest_12 ?_
    obtain ⟨g_1, g_2, hwt, hwf⟩ := hw
    refine j_cmp_ge (tgt := 43) X g_1 g_2 dX5_firstBest_13 (by decide) (fun c_10 => ?_) (fun c_10 => ?_)
    · have hw := hwt c_10
      refine lv_iload_n X.1 X.2.1 dX5_firstBest_43 rfl (lv_at hl 3 rfl) ?_
      exact k_ir X rfl h hw dX5_firstBest_44
    · have hw := hwf c_10
      refine lv_aload_n X.1 X.2.1 dX5_firstBest_16 rfl (lv_at hl 0 rfl) ?_
      refine lv_iload_n X.1 X.2.1 dX5_firstBest_17 rfl (lv_at hl 1 rfl) ?_
      refine lv_iload_n X.1 X.2.1 dX5_firstBest_18 rfl (lv_at hl 2 rfl) ?_
      refine lv_iload X.1 X.2.1 dX5_firstBest_19 (lv_at hl 4 rfl) ?_
      refine k_i h (r_V (C := RX5) (ci := 5) (As := [.int (iv x1), .int (iv x2), .int (iv x4)]) (rest := []) X h (c_X5_costBehind l D ct ad L φ N0 σ x1 x2 x4 _ hw) rfl rfl ⟨Nat.le_of_ble_eq_true rfl, Nat.le_of_ble_eq_true rfl⟩ kw_1383 kw_1385 kw_52 kw_127 kw_1386 ⟨rfl, pd_X5_costBehind⟩ (hF.1 5 rfl).1 rfl rfl rfl hl.1 rfl (Nat.le_of_ble_eq_true rfl) ⟨Nat.le_of_ble_eq_true rfl, Nat.le_of_ble_eq_true rfl⟩ dX5_firstBest_21) (fun r_4 σ_3 H locs hw h => ?_)
      refine lv_aload_n X.1 X.2.1 dX5_firstBest_24 rfl (lv_at hl 0 rfl) ?_
      refine lv_iload_n X.1 X.2.1 dX5_firstBest_25 rfl (lv_at hl 1 rfl) ?_
      refine lv_iload_n X.1 X.2.1 dX5_firstBest_26 rfl (lv_at hl 2 rfl) ?_
      refine lv_iload_n X.1 X.2.1 dX5_firstBest_27 rfl (lv_at hl 3 rfl) ?_
      refine k_i h (r_V (C := RX5) (ci := 5) (As := [.int (iv x1), .int (iv x2), .int (iv x3)]) (rest := [.int (iv r_4)]) X h (c_X5_costBehind l D ct ad L φ N0 σ_3 x1 x2 x3 _ hw) rfl rfl ⟨Nat.le_of_ble_eq_true rfl, Nat.le_of_ble_eq_true rfl⟩ kw_1383 kw_1385 kw_52 kw_127 kw_1386 ⟨rfl, pd_X5_costBehind⟩ (hF.1 5 rfl).1 rfl rfl rfl hl.1 rfl (Nat.le_of_ble_eq_true rfl) ⟨Nat.le_of_ble_eq_true rfl, Nat.le_of_ble_eq_true rfl⟩ dX5_firstBest_28) (fun r_6 σ_5 H locs hw h => ?_)
      obtain ⟨g_7, g_8, hwt, hwf⟩ := hw
      refine j_cmp_ge (tgt := 37) X g_7 g_8 dX5_firstBest_31 (by decide) (fun c_9 => ?_) (fun c_9 => ?_)
      · have hw := hwt c_9
        exact lb_X5_firstBest_37 X ih σ_5 x1 x2 x3 x4 _ _ _ hw h (lv_sub hl [0, 1, 2, 3, 4] rfl)
      · have hw := hwf c_9
        refine lv_iload X.1 X.2.1 dX5_firstBest_34 (lv_at hl 4 rfl) ?_
        refine lv_istore_n (lv' := [(3, .int (iv x4)), (0, .ref (ad 5 0)), (1, .int (iv x1)), (2, .int (iv x2)), (4, .int (iv x4))]) X.1 X.2.1 dX5_firstBest_36 rfl hl (by decide) rfl (fun ls hl => ?_)
        exact lb_X5_firstBest_37 X ih σ_5 x1 x2 x4 x4 _ _ _ hw h (lv_sub hl [1, 2, 3, 0, 4] rfl)
theorem pd_X5_firstBest : yX5_firstBest.cls ≠ "java/lang/invoke/MethodHandle" ∧ yX5_firstBest.cls ≠ "java/lang/invoke/VarHandle" ∧ (parseMethodDescriptor yX5_firstBest.desc).map (fun d => d.parameters.length) = some 2 := by decide +kernel
set_option maxRecDepth 100000 in
set_option maxHeartbeats 4000000 in
theorem c_X5_firstBest (l : Launch) (D : va_G) (ct : Nat → ClassId) (ad : Nat → Nat → Nat) (L : List (Nat × Nat)) (φ : Nat → Nat → Nat → Bool) (N0 : Nat) (σ : St) (x1 : Int) (x2 : Int) (Q : Int → St → Prop) (hw : wp_X5_firstBest σ x1 x2 Q) : Met l yX5_firstBest (.code yX5_firstBest cX5_firstBest 5 (some .int) :: gw) ({ frames := 1, cells := 0, slots := 0, locals := 23 } : Room) (Pm D ct ad L φ N0 σ [.ref (ad 5 0), .int (iv x1), .int (iv x2)]) (Qi D ct ad L φ N0 Q) 0 0 (AA N0) := by
  refine m_of (by decide) (fun p e s m below meth c X hnm h => ?_)
  have hF := X.2.2.2.2.2.2.2.2.1
  have hl := lv_entry ([.ref (ad 5 0), .int (iv x1), .int (iv x2)]) (n := 5) (Nat.le_of_ble_eq_true rfl)
  rw [lg_entry_eq]
  generalize (lg_sl ([.ref (ad 5 0), .int (iv x1), .int (iv x2)]) ++ List.replicate (5 - (lg_sl ([.ref (ad 5 0), .int (iv x1), .int (iv x2)])).length) Slot.unset).toArray = ls at hl ⊢
  have hl : lv_has ls 5 [(0, .ref (ad 5 0)), (1, .int (iv x1)), (2, .int (iv x2))] := hl
  have h : Hs D ct ad L φ N0 s.heap σ s.heap [] := h
  unfold wp_X5_firstBest at hw
  refine j_iconst X dX5_firstBest_0 ?_
  refine lv_istore_n (lv' := [(3, .int (iv 0)), (0, .ref (ad 5 0)), (1, .int (iv x1)), (2, .int (iv x2))]) X.1 X.2.1 dX5_firstBest_1 rfl hl (by decide) rfl (fun ls hl => ?_)
  refine j_iconst X dX5_firstBest_2 ?_
  refine lv_istore (lv' := [(4, .int (iv 1)), (3, .int (iv 0)), (0, .ref (ad 5 0)), (1, .int (iv x1)), (2, .int (iv x2))]) X.1 X.2.1 dX5_firstBest_3 hl (by decide) rfl (fun ls hl => ?_)
  exact hw.elim (fun n5 hw => lb_X5_firstBest_5 X n5 σ x1 x2 0 1 _ _ _ hw h (lv_sub hl [2, 3, 4, 1, 0] rfl))
end
section
variable {p : Program} {l : Launch} {e : Env} {s : State} {m : MethodId} {args : Array Value} {below : List Frame} {meth : Method} {c : Code} {D : va_G} {ct : Nat → ClassId} {ad : Nat → Nat → Nat} {L : List (Nat × Nat)} {φ : Nat → Nat → Nat → Bool} {N0 : Nat}
variable {Q : Int → St → Prop}
set_option maxRecDepth 100000 in
set_option maxHeartbeats 4000000 in
theorem lb_X5_planRails_67 (X : Cx p s m meth c args cX5_planRails 5 (some .int) RX5 D ct L φ N0) (σ : St) (H : Heap) (locs : List Loc) (ls : Array Slot) (hw : wp_X5_planRails_67 Q σ) (h : Hs D ct ad L φ N0 s.heap σ H locs) (hl : lv_has ls 5 [(0, .ref (ad 5 0))]) : W p l e ({ frames := 2, cells := 0, slots := 0, locals := 53 } : Room) s m args below meth c H locs 0 0 (MQ below (Qi D ct ad L φ N0 Q) args s 0 0 (AA N0)) (F0 m 67 ls []) := by
  have hF := X.2.2.2.2.2.2.2.2.1
  unfold wp_X5_planRails_67 at hw
  refine lv_aload_n X.1 X.2.1 dX5_planRails_67 rfl (lv_at hl 0 rfl) ?_
  refine j_iconst X dX5_planRails_68 ?_
  refine j_iconst X dX5_planRails_69 ?_
  refine lv_aload_n X.1 X.2.1 dX5_planRails_70 rfl (lv_at hl 0 rfl) ?_
  refine r_getR (ci := 5) X inw_5 h (hF.1 5 rfl).1 rfl rfl 10 (by decide) kw_394 rfl ((hF.1 5 rfl).2 10) dX5_planRails_71 ?_
  refine j_iconst X dX5_planRails_74 ?_
  refine r_iald (n := 4) X h (hF.1 49 rfl).1 rfl (by decide) (by decide) (by decide) dX5_planRails_75 ?_
  refine k_i h (r_V (C := RX5) (ci := 5) (As := [.int (iv 0), .int (iv 0), .int (iv (σ 49 0 (Int.toNat 0)))]) (rest := []) X h (c_X5_costBehind l D ct ad L φ N0 σ 0 0 (σ 49 0 (Int.toNat 0)) _ hw) rfl rfl ⟨Nat.le_of_ble_eq_true rfl, Nat.le_of_ble_eq_true rfl⟩ kw_1383 kw_1385 kw_52 kw_127 kw_1386 ⟨rfl, pd_X5_costBehind⟩ (hF.1 5 rfl).1 rfl rfl rfl hl.1 rfl (Nat.le_of_ble_eq_true rfl) ⟨Nat.le_of_ble_eq_true rfl, Nat.le_of_ble_eq_true rfl⟩ dX5_planRails_76) (fun r_2 σ_1 H locs hw h => ?_)
  exact k_ir X rfl h hw dX5_planRails_79
set_option maxRecDepth 100000 in
set_option maxHeartbeats 4000000 in
theorem lb_X5_planRails_33 (X : Cx p s m meth c args cX5_planRails 5 (some .int) RX5 D ct L φ N0) {K67 : St → Prop} (hK67 : ∀ (σ : St) (H : Heap) (locs : List Loc) (ls : Array Slot), K67 σ → Hs D ct ad L φ N0 s.heap σ H locs → lv_has ls 5 [(0, .ref (ad 5 0))] → W p l e ({ frames := 2, cells := 0, slots := 0, locals := 53 } : Room) s m args below meth c H locs 0 0 (MQ below (Qi D ct ad L φ N0 Q) args s 0 0 (AA N0)) (F0 m 67 ls [])) : ∀ (n : Nat) (σ : St) (x3 : Int) (x4 : Int) (H : Heap) (locs : List Loc) (ls : Array Slot), wp_X5_planRails_33 K67 Q n σ x3 x4 → Hs D ct ad L φ N0 s.heap σ H locs → lv_has ls 5 [(0, .ref (ad 5 0)), (3, .int (iv x3)), (4, .int (iv x4))] → W p l e ({ frames := 2, cells := 0, slots := 0, locals := 53 } : Room) s m args below meth c H locs 0 0 (MQ below (Qi D ct ad L φ N0 Q) args s 0 0 (AA N0)) (F0 m 33 ls []) := by
  have hF := X.2.2.2.2.2.2.2.2.1
  intro n
  induction n with
  | zero => intro σ x3 x4 H locs ls hw; exact hw.elim
  | succ n ih =>
    intro σ x3 x4 H locs ls hw h hl
    unfold wp_X5_planRails_33 at hw
    refine lv_iload X.1 X.2.1 dX5_planRails_33 (lv_at hl 2 rfl) ?_
    refine j_iconst X dX5_planRails_35 ?_
    obtain ⟨g_3, hwt, hwf⟩ := hw
    refine j_cmp_ge (tgt := 67) X g_3 ⟨by decide, by decide⟩ dX5_planRails_36 (by decide) (fun c_12 => ?_) (fun c_12 => ?_)
    · have hw := hwt c_12
      exact hK67 σ _ _ _ hw h (lv_sub hl [0] rfl)
    · have hw := hwf c_12
      refine lv_aload_n X.1 X.2.1 dX5_planRails_39 rfl (lv_at hl 0 rfl) ?_
      refine r_getR (ci := 5) X inw_5 h (hF.1 5 rfl).1 rfl rfl 10 (by decide) kw_394 rfl ((hF.1 5 rfl).2 10) dX5_planRails_40 ?_
      refine lv_iload X.1 X.2.1 dX5_planRails_43 (lv_at hl 2 rfl) ?_
      refine lv_aload_n X.1 X.2.1 dX5_planRails_45 rfl (lv_at hl 0 rfl) ?_
      refine lv_iload X.1 X.2.1 dX5_planRails_46 (lv_at hl 2 rfl) ?_
      refine lv_iload_n X.1 X.2.1 dX5_planRails_48 rfl (lv_at hl 1 rfl) ?_
      refine k_i h (r_V (C := RX5) (ci := 5) (As := [.int (iv x4), .int (iv x3)]) (rest := [.int (iv x4), .ref (ad 49 0)]) X h (c_X5_firstBest l D ct ad L φ N0 σ x4 x3 _ hw) rfl rfl ⟨Nat.le_of_ble_eq_true rfl, Nat.le_of_ble_eq_true rfl⟩ kw_1379 kw_1381 kw_51 kw_127 kw_1382 ⟨rfl, pd_X5_firstBest⟩ (hF.1 5 rfl).1 rfl rfl rfl hl.1 rfl (Nat.le_of_ble_eq_true rfl) ⟨Nat.le_of_ble_eq_true rfl, Nat.le_of_ble_eq_true rfl⟩ dX5_planRails_49) (fun r_5 σ_4 H locs hw h => ?_)
      obtain ⟨g_6, g_7, hw⟩ := hw
      refine r_iast (n := 4) X h (hF.1 49 rfl).1 (fun _ => rfl) (by decide) g_6 g_7 rfl dX5_planRails_52 (fun H locs h => ?_)
      obtain ⟨σ_8, eσ_8⟩ : ∃ z : St, z = st σ_4 49 0 (Int.toNat x4) r_5 := ⟨_, rfl⟩
      rw [← eσ_8] at h
      have hw := hw σ_8 eσ_8
      refine lv_aload_n X.1 X.2.1 dX5_planRails_53 rfl (lv_at hl 0 rfl) ?_
      refine r_getR (ci := 5) X inw_5 h (hF.1 5 rfl).1 rfl rfl 10 (by decide) kw_394 rfl ((hF.1 5 rfl).2 10) dX5_planRails_54 ?_
      refine lv_iload X.1 X.2.1 dX5_planRails_57 (lv_at hl 2 rfl) ?_
      obtain ⟨g_9, g_10, hw⟩ := hw
      refine r_iald (n := 4) X h (hF.1 49 rfl).1 rfl (by decide) g_9 g_10 dX5_planRails_59 ?_
      refine j_bind (fun v_11 ev_11 => ?_)
      have hw := hw v_11 ev_11
      refine lv_istore_n (lv' := [(3, .int (iv v_11)), (0, .ref (ad 5 0)), (4, .int (iv x4))]) X.1 X.2.1 dX5_planRails_60 rfl hl (by decide) rfl (fun ls hl => ?_)
      refine j_iinc (kk9 := 2) (lv' := [(4, .int (iv (x4 + 1))), (3, .int (iv v_11)), (0, .ref (ad 5 0))]) X dX5_planRails_61 hl rfl (by decide) rfl (fun ls hl => ?_)
      refine lv_goto (tgt := 33) X.1 X.2.1 dX5_planRails_64 (by decide) ?_
      exact ih σ_8 v_11 (x4 + 1) _ _ _ hw h (lv_sub hl [2, 1, 0] rfl)
set_option maxRecDepth 100000 in
set_option maxHeartbeats 4000000 in
theorem lb_X5_planRails_28 (X : Cx p s m meth c args cX5_planRails 5 (some .int) RX5 D ct L φ N0) (σ : St) (H : Heap) (locs : List Loc) (ls : Array Slot) (hw : wp_X5_planRails_28 Q σ) (h : Hs D ct ad L φ N0 s.heap σ H locs) (hl : lv_has ls 5 [(0, .ref (ad 5 0))]) : W p l e ({ frames := 2, cells := 0, slots := 0, locals := 53 } : Room) s m args below meth c H locs 0 0 (MQ below (Qi D ct ad L φ N0 Q) args s 0 0 (AA N0)) (F0 m 28 ls []) := by
  have hF := X.2.2.2.2.2.2.2.2.1
  unfold wp_X5_planRails_28 at hw
  refine j_iconst X dX5_planRails_28 ?_
  refine lv_istore_n (lv' := [(3, .int (iv 0)), (0, .ref (ad 5 0))]) X.1 X.2.1 dX5_planRails_29 rfl hl (by decide) rfl (fun ls hl => ?_)
  refine j_iconst X dX5_planRails_30 ?_
  refine lv_istore (lv' := [(4, .int (iv 0)), (3, .int (iv 0)), (0, .ref (ad 5 0))]) X.1 X.2.1 dX5_planRails_31 hl (by decide) rfl (fun ls hl => ?_)
  exact hw.elim (fun n33 hw => lb_X5_planRails_33 X (lb_X5_planRails_67 X) n33 σ 0 0 _ _ _ hw h (lv_sub hl [2, 1, 0] rfl))
set_option maxRecDepth 100000 in
set_option maxHeartbeats 4000000 in
theorem lb_X5_planRails_6 (X : Cx p s m meth c args cX5_planRails 5 (some .int) RX5 D ct L φ N0) {K28 : St → Prop} (hK28 : ∀ (σ : St) (H : Heap) (locs : List Loc) (ls : Array Slot), K28 σ → Hs D ct ad L φ N0 s.heap σ H locs → lv_has ls 5 [(0, .ref (ad 5 0))] → W p l e ({ frames := 2, cells := 0, slots := 0, locals := 53 } : Room) s m args below meth c H locs 0 0 (MQ below (Qi D ct ad L φ N0 Q) args s 0 0 (AA N0)) (F0 m 28 ls [])) : ∀ (n : Nat) (σ : St) (x1 : Int) (x2 : Int) (x3 : Int) (H : Heap) (locs : List Loc) (ls : Array Slot), wp_X5_planRails_6 K28 Q n σ x1 x2 x3 → Hs D ct ad L φ N0 s.heap σ H locs → lv_has ls 5 [(0, .ref (ad 5 0)), (1, .int (iv x1)), (2, .int (iv x2)), (3, .int (iv x3))] → W p l e ({ frames := 2, cells := 0, slots := 0, locals := 53 } : Room) s m args below meth c H locs 0 0 (MQ below (Qi D ct ad L φ N0 Q) args s 0 0 (AA N0)) (F0 m 6 ls []) := by
  have hF := X.2.2.2.2.2.2.2.2.1
  intro n
  induction n with
  | zero => intro σ x1 x2 x3 H locs ls hw; exact hw.elim
  | succ n ih =>
    intro σ x1 x2 x3 H locs ls hw h hl
    unfold wp_X5_planRails_6 at hw
    refine lv_iload_n X.1 X.2.1 dX5_planRails_6 rfl (lv_at hl 3 rfl) ?_
    obtain ⟨g_13, hwt, hwf⟩ := hw
    refine j_if_lt (tgt := 28) X g_13 dX5_planRails_7 (by decide) (fun c_16 => ?_) (fun c_16 => ?_)
    · have hw := hwt c_16
      exact hK28 σ _ _ _ hw h (lv_sub hl [0] rfl)
    · have hw := hwf c_16
      refine lv_aload_n X.1 X.2.1 dX5_planRails_10 rfl (lv_at hl 0 rfl) ?_
      refine lv_iload_n X.1 X.2.1 dX5_planRails_11 rfl (lv_at hl 3 rfl) ?_
      refine lv_iload_n X.1 X.2.1 dX5_planRails_12 rfl (lv_at hl 1 rfl) ?_
      refine lv_iload_n X.1 X.2.1 dX5_planRails_13 rfl (lv_at hl 2 rfl) ?_
      refine k_v h (r_V (C := RX5) (ci := 5) (As := [.int (iv x3), .int (iv x1), .int (iv x2)]) (rest := []) X h (c_X5_weighSeason l D ct ad L φ N0 σ x3 x1 x2 _ hw) rfl rfl ⟨Nat.le_of_ble_eq_true rfl, Nat.le_of_ble_eq_true rfl⟩ kw_1360 kw_1362 kw_49 kw_127 kw_1363 ⟨rfl, pd_X5_weighSeason⟩ (hF.1 5 rfl).1 rfl rfl rfl hl.1 rfl (Nat.le_of_ble_eq_true rfl) ⟨Nat.le_of_ble_eq_true rfl, Nat.le_of_ble_eq_true rfl⟩ dX5_planRails_14) (fun σ_14 H locs hw h => ?_)
      refine lv_aload_n X.1 X.2.1 dX5_planRails_17 rfl (lv_at hl 0 rfl) ?_
      refine lv_iload_n X.1 X.2.1 dX5_planRails_18 rfl (lv_at hl 3 rfl) ?_
      refine k_v h (r_V (C := RX5) (ci := 5) (As := [.int (iv x3)]) (rest := []) X h (c_X5_lookAhead l D ct ad L φ N0 σ_14 x3 _ hw) rfl rfl ⟨Nat.le_of_ble_eq_true rfl, Nat.le_of_ble_eq_true rfl⟩ kw_1371 kw_1373 kw_50 kw_127 kw_1374 ⟨rfl, pd_X5_lookAhead⟩ (hF.1 5 rfl).1 rfl rfl rfl hl.1 rfl (Nat.le_of_ble_eq_true rfl) ⟨Nat.le_of_ble_eq_true rfl, Nat.le_of_ble_eq_true rfl⟩ dX5_planRails_19) (fun σ_15 H locs hw h => ?_)
      refine j_iinc (kk9 := 3) (lv' := [(3, .int (iv (x3 + (-1)))), (0, .ref (ad 5 0)), (1, .int (iv x1)), (2, .int (iv x2))]) X dX5_planRails_22 hl rfl (by decide) rfl (fun ls hl => ?_)
      refine lv_goto (tgt := 6) X.1 X.2.1 dX5_planRails_25 (by decide) ?_
      exact ih σ_15 x1 x2 (x3 + (-1)) _ _ _ hw h (lv_sub hl [1, 2, 3, 0] rfl)
theorem pd_X5_planRails : yX5_planRails.cls ≠ "java/lang/invoke/MethodHandle" ∧ yX5_planRails.cls ≠ "java/lang/invoke/VarHandle" ∧ (parseMethodDescriptor yX5_planRails.desc).map (fun d => d.parameters.length) = some 2 := by decide +kernel
set_option maxRecDepth 100000 in
set_option maxHeartbeats 4000000 in
theorem c_X5_planRails (l : Launch) (D : va_G) (ct : Nat → ClassId) (ad : Nat → Nat → Nat) (L : List (Nat × Nat)) (φ : Nat → Nat → Nat → Bool) (N0 : Nat) (σ : St) (x1 : Int) (x2 : Int) (Q : Int → St → Prop) (hw : wp_X5_planRails σ x1 x2 Q) : Met l yX5_planRails (.code yX5_planRails cX5_planRails 5 (some .int) :: gw) ({ frames := 2, cells := 0, slots := 0, locals := 53 } : Room) (Pm D ct ad L φ N0 σ [.ref (ad 5 0), .int (iv x1), .int (iv x2)]) (Qi D ct ad L φ N0 Q) 0 0 (AA N0) := by
  refine m_of (by decide) (fun p e s m below meth c X hnm h => ?_)
  have hF := X.2.2.2.2.2.2.2.2.1
  have hl := lv_entry ([.ref (ad 5 0), .int (iv x1), .int (iv x2)]) (n := 5) (Nat.le_of_ble_eq_true rfl)
  rw [lg_entry_eq]
  generalize (lg_sl ([.ref (ad 5 0), .int (iv x1), .int (iv x2)]) ++ List.replicate (5 - (lg_sl ([.ref (ad 5 0), .int (iv x1), .int (iv x2)])).length) Slot.unset).toArray = ls at hl ⊢
  have hl : lv_has ls 5 [(0, .ref (ad 5 0)), (1, .int (iv x1)), (2, .int (iv x2))] := hl
  have h : Hs D ct ad L φ N0 s.heap σ s.heap [] := h
  unfold wp_X5_planRails at hw
  refine lv_aload_n X.1 X.2.1 dX5_planRails_0 rfl (lv_at hl 0 rfl) ?_
  refine k_v h (r_V (C := RX5) (ci := 5) (As := []) (rest := []) X h (c_X5_addUpSets l D ct ad L φ N0 σ _ hw) rfl rfl ⟨Nat.le_of_ble_eq_true rfl, Nat.le_of_ble_eq_true rfl⟩ kw_1356 kw_1358 kw_48 kw_127 kw_1359 ⟨rfl, pd_X5_addUpSets⟩ (hF.1 5 rfl).1 rfl rfl rfl hl.1 rfl (Nat.le_of_ble_eq_true rfl) ⟨Nat.le_of_ble_eq_true rfl, Nat.le_of_ble_eq_true rfl⟩ dX5_planRails_1) (fun σ_17 H locs hw h => ?_)
  refine j_iconst X dX5_planRails_4 ?_
  refine lv_istore_n (lv' := [(3, .int (iv 3)), (0, .ref (ad 5 0)), (1, .int (iv x1)), (2, .int (iv x2))]) X.1 X.2.1 dX5_planRails_5 rfl hl (by decide) rfl (fun ls hl => ?_)
  exact hw.elim (fun n6 hw => lb_X5_planRails_6 X (lb_X5_planRails_28 X) n6 σ_17 x1 x2 3 _ _ _ hw h (lv_sub hl [1, 2, 3, 0] rfl))
end
section
variable {p : Program} {l : Launch} {e : Env} {s : State} {m : MethodId} {args : Array Value} {below : List Frame} {meth : Method} {c : Code} {D : va_G} {ct : Nat → ClassId} {ad : Nat → Nat → Nat} {L : List (Nat × Nat)} {φ : Nat → Nat → Nat → Bool} {N0 : Nat}
variable {Q : St → Prop}
theorem pd_X5_startCuts : yX5_startCuts.cls ≠ "java/lang/invoke/MethodHandle" ∧ yX5_startCuts.cls ≠ "java/lang/invoke/VarHandle" ∧ (parseMethodDescriptor yX5_startCuts.desc).map (fun d => d.parameters.length) = some 4 := by decide +kernel
set_option maxRecDepth 100000 in
set_option maxHeartbeats 4000000 in
theorem c_X5_startCuts (l : Launch) (D : va_G) (ct : Nat → ClassId) (ad : Nat → Nat → Nat) (L : List (Nat × Nat)) (φ : Nat → Nat → Nat → Bool) (N0 : Nat) (σ : St) (x1 : Int) (x2 : Int) (x3 : Int) (x4 : Int) (Q : St → Prop) (hw : wp_X5_startCuts σ x1 x2 x3 x4 Q) : Met l yX5_startCuts (.code yX5_startCuts cX5_startCuts 5 none :: gw) ({ frames := 0, cells := 0, slots := 0, locals := 0 } : Room) (Pm D ct ad L φ N0 σ [.ref (ad 5 0), .int (iv x1), .int (iv x2), .int (iv x3), .int (iv x4)]) (Qv D ct ad L φ N0 Q) 0 0 (AA N0) := by
  refine m_of (by decide) (fun p e s m below meth c X hnm h => ?_)
  have hF := X.2.2.2.2.2.2.2.2.1
  have hl := lv_entry ([.ref (ad 5 0), .int (iv x1), .int (iv x2), .int (iv x3), .int (iv x4)]) (n := 5) (Nat.le_of_ble_eq_true rfl)
  rw [lg_entry_eq]
  generalize (lg_sl ([.ref (ad 5 0), .int (iv x1), .int (iv x2), .int (iv x3), .int (iv x4)]) ++ List.replicate (5 - (lg_sl ([.ref (ad 5 0), .int (iv x1), .int (iv x2), .int (iv x3), .int (iv x4)])).length) Slot.unset).toArray = ls at hl ⊢
  have hl : lv_has ls 5 [(0, .ref (ad 5 0)), (1, .int (iv x1)), (2, .int (iv x2)), (3, .int (iv x3)), (4, .int (iv x4))] := hl
  have h : Hs D ct ad L φ N0 s.heap σ s.heap [] := h
  unfold wp_X5_startCuts at hw
  refine lv_aload_n X.1 X.2.1 dX5_startCuts_0 rfl (lv_at hl 0 rfl) ?_
  refine r_getR (ci := 5) X inw_5 h (hF.1 5 rfl).1 rfl rfl 11 (by decide) kw_396 rfl ((hF.1 5 rfl).2 11) dX5_startCuts_1 ?_
  refine j_iconst X dX5_startCuts_4 ?_
  refine lv_iload_n X.1 X.2.1 dX5_startCuts_5 rfl (lv_at hl 1 rfl) ?_
  refine r_iast (n := 4) X h (hF.1 51 rfl).1 (fun _ => rfl) (by decide) (by decide) (by decide) rfl dX5_startCuts_6 (fun H locs h => ?_)
  obtain ⟨σ_1, eσ_1⟩ : ∃ z : St, z = st σ 51 0 (Int.toNat 0) x1 := ⟨_, rfl⟩
  rw [← eσ_1] at h
  have hw := hw σ_1 eσ_1
  refine lv_aload_n X.1 X.2.1 dX5_startCuts_7 rfl (lv_at hl 0 rfl) ?_
  refine r_getR (ci := 5) X inw_5 h (hF.1 5 rfl).1 rfl rfl 11 (by decide) kw_396 rfl ((hF.1 5 rfl).2 11) dX5_startCuts_8 ?_
  refine j_iconst X dX5_startCuts_11 ?_
  refine lv_iload_n X.1 X.2.1 dX5_startCuts_12 rfl (lv_at hl 2 rfl) ?_
  refine r_iast (n := 4) X h (hF.1 51 rfl).1 (fun _ => rfl) (by decide) (by decide) (by decide) rfl dX5_startCuts_13 (fun H locs h => ?_)
  obtain ⟨σ_2, eσ_2⟩ : ∃ z : St, z = st σ_1 51 0 (Int.toNat 1) x2 := ⟨_, rfl⟩
  rw [← eσ_2] at h
  have hw := hw σ_2 eσ_2
  refine lv_aload_n X.1 X.2.1 dX5_startCuts_14 rfl (lv_at hl 0 rfl) ?_
  refine r_getR (ci := 5) X inw_5 h (hF.1 5 rfl).1 rfl rfl 11 (by decide) kw_396 rfl ((hF.1 5 rfl).2 11) dX5_startCuts_15 ?_
  refine j_iconst X dX5_startCuts_18 ?_
  refine lv_iload_n X.1 X.2.1 dX5_startCuts_19 rfl (lv_at hl 3 rfl) ?_
  refine r_iast (n := 4) X h (hF.1 51 rfl).1 (fun _ => rfl) (by decide) (by decide) (by decide) rfl dX5_startCuts_20 (fun H locs h => ?_)
  obtain ⟨σ_3, eσ_3⟩ : ∃ z : St, z = st σ_2 51 0 (Int.toNat 2) x3 := ⟨_, rfl⟩
  rw [← eσ_3] at h
  have hw := hw σ_3 eσ_3
  refine lv_aload_n X.1 X.2.1 dX5_startCuts_21 rfl (lv_at hl 0 rfl) ?_
  refine r_getR (ci := 5) X inw_5 h (hF.1 5 rfl).1 rfl rfl 11 (by decide) kw_396 rfl ((hF.1 5 rfl).2 11) dX5_startCuts_22 ?_
  refine j_iconst X dX5_startCuts_25 ?_
  refine lv_iload X.1 X.2.1 dX5_startCuts_26 (lv_at hl 4 rfl) ?_
  refine r_iast (n := 4) X h (hF.1 51 rfl).1 (fun _ => rfl) (by decide) (by decide) (by decide) rfl dX5_startCuts_28 (fun H locs h => ?_)
  obtain ⟨σ_4, eσ_4⟩ : ∃ z : St, z = st σ_3 51 0 (Int.toNat 3) x4 := ⟨_, rfl⟩
  rw [← eσ_4] at h
  have hw := hw σ_4 eσ_4
  exact k_vr X h hw dX5_startCuts_29
end
section
variable {p : Program} {l : Launch} {e : Env} {s : State} {m : MethodId} {args : Array Value} {below : List Frame} {meth : Method} {c : Code} {D : va_G} {ct : Nat → ClassId} {ad : Nat → Nat → Nat} {L : List (Nat × Nat)} {φ : Nat → Nat → Nat → Bool} {N0 : Nat}
variable {Q : Int → St → Prop}
theorem pd_X5_state : yX5_state.cls ≠ "java/lang/invoke/MethodHandle" ∧ yX5_state.cls ≠ "java/lang/invoke/VarHandle" ∧ (parseMethodDescriptor yX5_state.desc).map (fun d => d.parameters.length) = some 3 := by decide +kernel
set_option maxRecDepth 100000 in
set_option maxHeartbeats 4000000 in
theorem c_X5_state (l : Launch) (D : va_G) (ct : Nat → ClassId) (ad : Nat → Nat → Nat) (L : List (Nat × Nat)) (φ : Nat → Nat → Nat → Bool) (N0 : Nat) (σ : St) (x0 : Int) (x1 : Int) (x2 : Int) (Q : Int → St → Prop) (hw : wp_X5_state σ x0 x1 x2 Q) : Met l yX5_state (.code yX5_state cX5_state 5 (some .int) :: gw) ({ frames := 0, cells := 0, slots := 0, locals := 0 } : Room) (Pm D ct ad L φ N0 σ [.int (iv x0), .int (iv x1), .int (iv x2)]) (Qi D ct ad L φ N0 Q) 0 0 (AA N0) := by
  refine m_of (by decide) (fun p e s m below meth c X hnm h => ?_)
  have hF := X.2.2.2.2.2.2.2.2.1
  have hl := lv_entry ([.int (iv x0), .int (iv x1), .int (iv x2)]) (n := 5) (Nat.le_of_ble_eq_true rfl)
  rw [lg_entry_eq]
  generalize (lg_sl ([.int (iv x0), .int (iv x1), .int (iv x2)]) ++ List.replicate (5 - (lg_sl ([.int (iv x0), .int (iv x1), .int (iv x2)])).length) Slot.unset).toArray = ls at hl ⊢
  have hl : lv_has ls 5 [(0, .int (iv x0)), (1, .int (iv x1)), (2, .int (iv x2))] := hl
  have h : Hs D ct ad L φ N0 s.heap σ s.heap [] := h
  unfold wp_X5_state at hw
  refine lv_iload_n X.1 X.2.1 dX5_state_0 rfl (lv_at hl 0 rfl) ?_
  refine lv_iload_n X.1 X.2.1 dX5_state_1 rfl (lv_at hl 1 rfl) ?_
  refine j_iadd X dX5_state_2 ?_
  refine j_bind (fun v_1 ev_1 => ?_)
  have hw := hw v_1 ev_1
  refine lv_istore_n (lv' := [(3, .int (iv v_1)), (0, .int (iv x0)), (1, .int (iv x1)), (2, .int (iv x2))]) X.1 X.2.1 dX5_state_3 rfl hl (by decide) rfl (fun ls hl => ?_)
  refine lv_iload_n X.1 X.2.1 dX5_state_4 rfl (lv_at hl 0 rfl) ?_
  refine lv_iload_n X.1 X.2.1 dX5_state_5 rfl (lv_at hl 3 rfl) ?_
  refine j_iadd X dX5_state_6 ?_
  refine j_bind (fun v_2 ev_2 => ?_)
  have hw := hw v_2 ev_2
  refine lv_istore (lv' := [(4, .int (iv v_2)), (3, .int (iv v_1)), (0, .int (iv x0)), (1, .int (iv x1)), (2, .int (iv x2))]) X.1 X.2.1 dX5_state_7 hl (by decide) rfl (fun ls hl => ?_)
  refine lv_iload X.1 X.2.1 dX5_state_9 (lv_at hl 0 rfl) ?_
  refine lv_iload X.1 X.2.1 dX5_state_11 (lv_at hl 0 rfl) ?_
  refine j_iconst X dX5_state_13 ?_
  refine j_iadd X dX5_state_14 ?_
  refine j_imul X dX5_state_15 ?_
  refine lv_iload X.1 X.2.1 dX5_state_16 (lv_at hl 0 rfl) ?_
  refine j_iconst X dX5_state_18 ?_
  refine j_iadd X dX5_state_19 ?_
  refine j_imul X dX5_state_20 ?_
  refine j_bipush X dX5_state_21 (by decide) ?_
  obtain ⟨g_3, hw⟩ := hw
  refine j_idiv X g_3 ⟨by decide, by decide⟩ (by decide) (by decide) dX5_state_23 ?_
  refine lv_iload_n X.1 X.2.1 dX5_state_24 rfl (lv_at hl 1 rfl) ?_
  refine lv_iload_n X.1 X.2.1 dX5_state_25 rfl (lv_at hl 1 rfl) ?_
  refine j_iconst X dX5_state_26 ?_
  refine j_iadd X dX5_state_27 ?_
  refine j_imul X dX5_state_28 ?_
  refine j_iconst X dX5_state_29 ?_
  obtain ⟨g_4, hw⟩ := hw
  refine j_idiv X g_4 ⟨by decide, by decide⟩ (by decide) (by decide) dX5_state_30 ?_
  refine j_iadd X dX5_state_31 ?_
  refine lv_iload_n X.1 X.2.1 dX5_state_32 rfl (lv_at hl 2 rfl) ?_
  refine j_iadd X dX5_state_33 ?_
  exact k_ir X rfl h hw dX5_state_34
end
section
variable {p : Program} {l : Launch} {e : Env} {s : State} {m : MethodId} {args : Array Value} {below : List Frame} {meth : Method} {c : Code} {D : va_G} {ct : Nat → ClassId} {ad : Nat → Nat → Nat} {L : List (Nat × Nat)} {φ : Nat → Nat → Nat → Bool} {N0 : Nat}
variable {Q : Int → St → Prop}
set_option maxRecDepth 100000 in
set_option maxHeartbeats 4000000 in
theorem lb_X5_canBe_35 (X : Cx p s m meth c args cX5_canBe 5 (some .boolean) RX5 D ct L φ N0) (σ : St) (x1 : Int) (x2 : Int) (H : Heap) (locs : List Loc) (ls : Array Slot) (hw : wp_X5_canBe_35 Q σ x1 x2) (h : Hs D ct ad L φ N0 s.heap σ H locs) (hl : lv_has ls 5 [(0, .ref (ad 5 0)), (1, .int (iv x1)), (2, .int (iv x2))]) : W p l e ({ frames := 0, cells := 0, slots := 0, locals := 0 } : Room) s m args below meth c H locs 0 0 (MQ below (Qi D ct ad L φ N0 Q) args s 0 0 (AA N0)) (F0 m 35 ls []) := by
  have hF := X.2.2.2.2.2.2.2.2.1
  unfold wp_X5_canBe_35 at hw
  refine lv_iload_n X.1 X.2.1 dX5_canBe_35 rfl (lv_at hl 1 rfl) ?_
  obtain ⟨g_1, hwt, hwf⟩ := hw
  refine j_if_gt (tgt := 49) X g_1 dX5_canBe_36 (by decide) (fun c_5 => ?_) (fun c_5 => ?_)
  · have hw := hwt c_5
    refine j_iconst X dX5_canBe_49 ?_
    refine lv_goto (tgt := 54) X.1 X.2.1 dX5_canBe_50 (by decide) ?_
    exact k_ir X rfl h hw dX5_canBe_54
  · have hw := hwf c_5
    refine lv_iload_n X.1 X.2.1 dX5_canBe_39 rfl (lv_at hl 2 rfl) ?_
    refine lv_aload_n X.1 X.2.1 dX5_canBe_40 rfl (lv_at hl 0 rfl) ?_
    refine r_getR (ci := 5) X inw_5 h (hF.1 5 rfl).1 rfl rfl 11 (by decide) kw_396 rfl ((hF.1 5 rfl).2 11) dX5_canBe_41 ?_
    refine j_iconst X dX5_canBe_44 ?_
    refine r_iald (n := 4) X h (hF.1 51 rfl).1 rfl (by decide) (by decide) (by decide) dX5_canBe_45 ?_
    obtain ⟨g_2, g_3, hwt, hwf⟩ := hw
    refine j_cmp_ne (tgt := 53) X g_2 g_3 dX5_canBe_46 (by decide) (fun c_4 => ?_) (fun c_4 => ?_)
    · have hw := hwt c_4
      refine j_iconst X dX5_canBe_53 ?_
      exact k_ir X rfl h hw dX5_canBe_54
    · have hw := hwf c_4
      refine j_iconst X dX5_canBe_49 ?_
      refine lv_goto (tgt := 54) X.1 X.2.1 dX5_canBe_50 (by decide) ?_
      exact k_ir X rfl h hw dX5_canBe_54
set_option maxRecDepth 100000 in
set_option maxHeartbeats 4000000 in
theorem lb_X5_canBe_18 (X : Cx p s m meth c args cX5_canBe 5 (some .boolean) RX5 D ct L φ N0) (σ : St) (x1 : Int) (x2 : Int) (x3 : Int) (H : Heap) (locs : List Loc) (ls : Array Slot) (hw : wp_X5_canBe_18 Q σ x1 x2 x3) (h : Hs D ct ad L φ N0 s.heap σ H locs) (hl : lv_has ls 5 [(0, .ref (ad 5 0)), (1, .int (iv x1)), (2, .int (iv x2)), (3, .int (iv x3))]) : W p l e ({ frames := 0, cells := 0, slots := 0, locals := 0 } : Room) s m args below meth c H locs 0 0 (MQ below (Qi D ct ad L φ N0 Q) args s 0 0 (AA N0)) (F0 m 18 ls []) := by
  have hF := X.2.2.2.2.2.2.2.2.1
  unfold wp_X5_canBe_18 at hw
  refine lv_iload_n X.1 X.2.1 dX5_canBe_18 rfl (lv_at hl 1 rfl) ?_
  refine j_iconst X dX5_canBe_19 ?_
  obtain ⟨g_6, hwt, hwf⟩ := hw
  refine j_cmp_gt (tgt := 35) X g_6 ⟨by decide, by decide⟩ dX5_canBe_20 (by decide) (fun c_12 => ?_) (fun c_12 => ?_)
  · have hw := hwt c_12
    exact lb_X5_canBe_35 X σ x1 x2 _ _ _ hw h (lv_sub hl [0, 1, 2] rfl)
  · have hw := hwf c_12
    refine lv_iload_n X.1 X.2.1 dX5_canBe_23 rfl (lv_at hl 3 rfl) ?_
    refine lv_aload_n X.1 X.2.1 dX5_canBe_24 rfl (lv_at hl 0 rfl) ?_
    refine r_getR (ci := 5) X inw_5 h (hF.1 5 rfl).1 rfl rfl 11 (by decide) kw_396 rfl ((hF.1 5 rfl).2 11) dX5_canBe_25 ?_
    refine j_iconst X dX5_canBe_28 ?_
    refine lv_iload_n X.1 X.2.1 dX5_canBe_29 rfl (lv_at hl 1 rfl) ?_
    refine j_isub X dX5_canBe_30 ?_
    obtain ⟨g_7, g_8, hw⟩ := hw
    refine r_iald (n := 4) X h (hF.1 51 rfl).1 rfl (by decide) g_7 g_8 dX5_canBe_31 ?_
    obtain ⟨g_9, g_10, hwt, hwf⟩ := hw
    refine j_cmp_ne (tgt := 53) X g_9 g_10 dX5_canBe_32 (by decide) (fun c_11 => ?_) (fun c_11 => ?_)
    · have hw := hwt c_11
      refine j_iconst X dX5_canBe_53 ?_
      exact k_ir X rfl h hw dX5_canBe_54
    · have hw := hwf c_11
      exact lb_X5_canBe_35 X σ x1 x2 _ _ _ hw h (lv_sub hl [0, 1, 2] rfl)
theorem pd_X5_canBe : yX5_canBe.cls ≠ "java/lang/invoke/MethodHandle" ∧ yX5_canBe.cls ≠ "java/lang/invoke/VarHandle" ∧ (parseMethodDescriptor yX5_canBe.desc).map (fun d => d.parameters.length) = some 4 := by decide +kernel
set_option maxRecDepth 100000 in
set_option maxHeartbeats 4000000 in
theorem c_X5_canBe (l : Launch) (D : va_G) (ct : Nat → ClassId) (ad : Nat → Nat → Nat) (L : List (Nat × Nat)) (φ : Nat → Nat → Nat → Bool) (N0 : Nat) (σ : St) (x1 : Int) (x2 : Int) (x3 : Int) (x4 : Int) (Q : Int → St → Prop) (hw : wp_X5_canBe σ x1 x2 x3 x4 Q) : Met l yX5_canBe (.code yX5_canBe cX5_canBe 5 (some .boolean) :: gw) ({ frames := 0, cells := 0, slots := 0, locals := 0 } : Room) (Pm D ct ad L φ N0 σ [.ref (ad 5 0), .int (iv x1), .int (iv x2), .int (iv x3), .int (iv x4)]) (Qi D ct ad L φ N0 Q) 0 0 (AA N0) := by
  refine m_of (by decide) (fun p e s m below meth c X hnm h => ?_)
  have hF := X.2.2.2.2.2.2.2.2.1
  have hl := lv_entry ([.ref (ad 5 0), .int (iv x1), .int (iv x2), .int (iv x3), .int (iv x4)]) (n := 5) (Nat.le_of_ble_eq_true rfl)
  rw [lg_entry_eq]
  generalize (lg_sl ([.ref (ad 5 0), .int (iv x1), .int (iv x2), .int (iv x3), .int (iv x4)]) ++ List.replicate (5 - (lg_sl ([.ref (ad 5 0), .int (iv x1), .int (iv x2), .int (iv x3), .int (iv x4)])).length) Slot.unset).toArray = ls at hl ⊢
  have hl : lv_has ls 5 [(0, .ref (ad 5 0)), (1, .int (iv x1)), (2, .int (iv x2)), (3, .int (iv x3)), (4, .int (iv x4))] := hl
  have h : Hs D ct ad L φ N0 s.heap σ s.heap [] := h
  unfold wp_X5_canBe at hw
  refine lv_iload_n X.1 X.2.1 dX5_canBe_0 rfl (lv_at hl 1 rfl) ?_
  refine j_iconst X dX5_canBe_1 ?_
  obtain ⟨g_13, hwt, hwf⟩ := hw
  refine j_cmp_gt (tgt := 18) X g_13 ⟨by decide, by decide⟩ dX5_canBe_2 (by decide) (fun c_19 => ?_) (fun c_19 => ?_)
  · have hw := hwt c_19
    exact lb_X5_canBe_18 X σ x1 x2 x3 _ _ _ hw h (lv_sub hl [0, 1, 2, 3] rfl)
  · have hw := hwf c_19
    refine lv_iload X.1 X.2.1 dX5_canBe_5 (lv_at hl 4 rfl) ?_
    refine lv_aload_n X.1 X.2.1 dX5_canBe_7 rfl (lv_at hl 0 rfl) ?_
    refine r_getR (ci := 5) X inw_5 h (hF.1 5 rfl).1 rfl rfl 11 (by decide) kw_396 rfl ((hF.1 5 rfl).2 11) dX5_canBe_8 ?_
    refine j_iconst X dX5_canBe_11 ?_
    refine lv_iload_n X.1 X.2.1 dX5_canBe_12 rfl (lv_at hl 1 rfl) ?_
    refine j_isub X dX5_canBe_13 ?_
    obtain ⟨g_14, g_15, hw⟩ := hw
    refine r_iald (n := 4) X h (hF.1 51 rfl).1 rfl (by decide) g_14 g_15 dX5_canBe_14 ?_
    obtain ⟨g_16, g_17, hwt, hwf⟩ := hw
    refine j_cmp_ne (tgt := 53) X g_16 g_17 dX5_canBe_15 (by decide) (fun c_18 => ?_) (fun c_18 => ?_)
    · have hw := hwt c_18
      refine j_iconst X dX5_canBe_53 ?_
      exact k_ir X rfl h hw dX5_canBe_54
    · have hw := hwf c_18
      exact lb_X5_canBe_18 X σ x1 x2 x3 _ _ _ hw h (lv_sub hl [0, 1, 2, 3] rfl)
end
section
variable {p : Program} {l : Launch} {e : Env} {s : State} {m : MethodId} {args : Array Value} {below : List Frame} {meth : Method} {c : Code} {D : va_G} {ct : Nat → ClassId} {ad : Nat → Nat → Nat} {L : List (Nat × Nat)} {φ : Nat → Nat → Nat → Bool} {N0 : Nat}
variable {Q : Int → St → Prop}
set_option maxRecDepth 100000 in
set_option maxHeartbeats 4000000 in
theorem lb_X5_bestCut_128 (X : Cx p s m meth c args cX5_bestCut 14 (some .int) RX5 D ct L φ N0) {K17 : St → Int → Int → Int → Int → Int → Int → Int → Int → Int → Prop} (hK17 : ∀ (σ : St) (x1 : Int) (x2 : Int) (x3 : Int) (x4 : Int) (x6 : Int) (x7 : Int) (x8 : Int) (x9 : Int) (x10 : Int) (H : Heap) (locs : List Loc) (ls : Array Slot), K17 σ x1 x2 x3 x4 x6 x7 x8 x9 x10 → Hs D ct ad L φ N0 s.heap σ H locs → lv_has ls 14 [(0, .ref (ad 5 0)), (1, .int (iv x1)), (2, .int (iv x2)), (3, .int (iv x3)), (4, .int (iv x4)), (6, .int (iv x6)), (7, .int (iv x7)), (8, .int (iv x8)), (9, .int (iv x9)), (10, .int (iv x10))] → W p l e ({ frames := 1, cells := 0, slots := 0, locals := 24 } : Room) s m args below meth c H locs 0 0 (MQ below (Qi D ct ad L φ N0 Q) args s 0 0 (AA N0)) (F0 m 17 ls [])) (σ : St) (x1 : Int) (x2 : Int) (x3 : Int) (x4 : Int) (x6 : Int) (x7 : Int) (x8 : Int) (x9 : Int) (x10 : Int) (H : Heap) (locs : List Loc) (ls : Array Slot) (hw : wp_X5_bestCut_128 K17 Q σ x1 x2 x3 x4 x6 x7 x8 x9 x10) (h : Hs D ct ad L φ N0 s.heap σ H locs) (hl : lv_has ls 14 [(0, .ref (ad 5 0)), (1, .int (iv x1)), (2, .int (iv x2)), (3, .int (iv x3)), (4, .int (iv x4)), (6, .int (iv x6)), (7, .int (iv x7)), (8, .int (iv x8)), (9, .int (iv x9)), (10, .int (iv x10))]) : W p l e ({ frames := 1, cells := 0, slots := 0, locals := 24 } : Room) s m args below meth c H locs 0 0 (MQ below (Qi D ct ad L φ N0 Q) args s 0 0 (AA N0)) (F0 m 128 ls []) := by
  have hF := X.2.2.2.2.2.2.2.2.1
  unfold wp_X5_bestCut_128 at hw
  refine j_iinc (kk9 := 9) (lv' := [(10, .int (iv (x10 + 1))), (0, .ref (ad 5 0)), (1, .int (iv x1)), (2, .int (iv x2)), (3, .int (iv x3)), (4, .int (iv x4)), (6, .int (iv x6)), (7, .int (iv x7)), (8, .int (iv x8)), (9, .int (iv x9))]) X dX5_bestCut_128 hl rfl (by decide) rfl (fun ls hl => ?_)
  refine lv_goto (tgt := 17) X.1 X.2.1 dX5_bestCut_131 (by decide) ?_
  exact hK17 σ x1 x2 x3 x4 x6 x7 x8 x9 (x10 + 1) _ _ _ hw h (lv_sub hl [1, 2, 3, 4, 5, 6, 7, 8, 9, 0] rfl)
set_option maxRecDepth 100000 in
set_option maxHeartbeats 4000000 in
theorem lb_X5_bestCut_122 (X : Cx p s m meth c args cX5_bestCut 14 (some .int) RX5 D ct L φ N0) {K36 : St → Int → Int → Int → Int → Int → Int → Int → Int → Int → Int → Prop} {K128 : St → Int → Int → Int → Int → Int → Int → Int → Int → Int → Prop} (hK36 : ∀ (σ : St) (x1 : Int) (x2 : Int) (x3 : Int) (x4 : Int) (x6 : Int) (x7 : Int) (x8 : Int) (x9 : Int) (x10 : Int) (x11 : Int) (H : Heap) (locs : List Loc) (ls : Array Slot), K36 σ x1 x2 x3 x4 x6 x7 x8 x9 x10 x11 → Hs D ct ad L φ N0 s.heap σ H locs → lv_has ls 14 [(0, .ref (ad 5 0)), (1, .int (iv x1)), (2, .int (iv x2)), (3, .int (iv x3)), (4, .int (iv x4)), (6, .int (iv x6)), (7, .int (iv x7)), (8, .int (iv x8)), (9, .int (iv x9)), (10, .int (iv x10)), (11, .int (iv x11))] → W p l e ({ frames := 1, cells := 0, slots := 0, locals := 24 } : Room) s m args below meth c H locs 0 0 (MQ below (Qi D ct ad L φ N0 Q) args s 0 0 (AA N0)) (F0 m 36 ls [])) (hK128 : ∀ (σ : St) (x1 : Int) (x2 : Int) (x3 : Int) (x4 : Int) (x6 : Int) (x7 : Int) (x8 : Int) (x9 : Int) (x10 : Int) (H : Heap) (locs : List Loc) (ls : Array Slot), K128 σ x1 x2 x3 x4 x6 x7 x8 x9 x10 → Hs D ct ad L φ N0 s.heap σ H locs → lv_has ls 14 [(0, .ref (ad 5 0)), (1, .int (iv x1)), (2, .int (iv x2)), (3, .int (iv x3)), (4, .int (iv x4)), (6, .int (iv x6)), (7, .int (iv x7)), (8, .int (iv x8)), (9, .int (iv x9)), (10, .int (iv x10))] → W p l e ({ frames := 1, cells := 0, slots := 0, locals := 24 } : Room) s m args below meth c H locs 0 0 (MQ below (Qi D ct ad L φ N0 Q) args s 0 0 (AA N0)) (F0 m 128 ls [])) (σ : St) (x1 : Int) (x2 : Int) (x3 : Int) (x4 : Int) (x6 : Int) (x7 : Int) (x8 : Int) (x9 : Int) (x10 : Int) (x11 : Int) (H : Heap) (locs : List Loc) (ls : Array Slot) (hw : wp_X5_bestCut_122 K36 K128 Q σ x1 x2 x3 x4 x6 x7 x8 x9 x10 x11) (h : Hs D ct ad L φ N0 s.heap σ H locs) (hl : lv_has ls 14 [(0, .ref (ad 5 0)), (1, .int (iv x1)), (2, .int (iv x2)), (3, .int (iv x3)), (4, .int (iv x4)), (6, .int (iv x6)), (7, .int (iv x7)), (8, .int (iv x8)), (9, .int (iv x9)), (10, .int (iv x10)), (11, .int (iv x11))]) : W p l e ({ frames := 1, cells := 0, slots := 0, locals := 24 } : Room) s m args below meth c H locs 0 0 (MQ below (Qi D ct ad L φ N0 Q) args s 0 0 (AA N0)) (F0 m 122 ls []) := by
  have hF := X.2.2.2.2.2.2.2.2.1
  unfold wp_X5_bestCut_122 at hw
  refine j_iinc (kk9 := 10) (lv' := [(11, .int (iv (x11 + 1))), (0, .ref (ad 5 0)), (1, .int (iv x1)), (2, .int (iv x2)), (3, .int (iv x3)), (4, .int (iv x4)), (6, .int (iv x6)), (7, .int (iv x7)), (8, .int (iv x8)), (9, .int (iv x9)), (10, .int (iv x10))]) X dX5_bestCut_122 hl rfl (by decide) rfl (fun ls hl => ?_)
  refine lv_goto (tgt := 36) X.1 X.2.1 dX5_bestCut_125 (by decide) ?_
  exact hK36 σ x1 x2 x3 x4 x6 x7 x8 x9 x10 (x11 + 1) _ _ _ hw h (lv_sub hl [1, 2, 3, 4, 5, 6, 7, 8, 9, 10, 0] rfl)
set_option maxRecDepth 100000 in
set_option maxHeartbeats 4000000 in
theorem lb_X5_bestCut_36 (X : Cx p s m meth c args cX5_bestCut 14 (some .int) RX5 D ct L φ N0) {K128 : St → Int → Int → Int → Int → Int → Int → Int → Int → Int → Prop} (hK128 : ∀ (σ : St) (x1 : Int) (x2 : Int) (x3 : Int) (x4 : Int) (x6 : Int) (x7 : Int) (x8 : Int) (x9 : Int) (x10 : Int) (H : Heap) (locs : List Loc) (ls : Array Slot), K128 σ x1 x2 x3 x4 x6 x7 x8 x9 x10 → Hs D ct ad L φ N0 s.heap σ H locs → lv_has ls 14 [(0, .ref (ad 5 0)), (1, .int (iv x1)), (2, .int (iv x2)), (3, .int (iv x3)), (4, .int (iv x4)), (6, .int (iv x6)), (7, .int (iv x7)), (8, .int (iv x8)), (9, .int (iv x9)), (10, .int (iv x10))] → W p l e ({ frames := 1, cells := 0, slots := 0, locals := 24 } : Room) s m args below meth c H locs 0 0 (MQ below (Qi D ct ad L φ N0 Q) args s 0 0 (AA N0)) (F0 m 128 ls [])) : ∀ (n : Nat) (σ : St) (x1 : Int) (x2 : Int) (x3 : Int) (x4 : Int) (x6 : Int) (x7 : Int) (x8 : Int) (x9 : Int) (x10 : Int) (x11 : Int) (H : Heap) (locs : List Loc) (ls : Array Slot), wp_X5_bestCut_36 K128 Q n σ x1 x2 x3 x4 x6 x7 x8 x9 x10 x11 → Hs D ct ad L φ N0 s.heap σ H locs → lv_has ls 14 [(0, .ref (ad 5 0)), (1, .int (iv x1)), (2, .int (iv x2)), (3, .int (iv x3)), (4, .int (iv x4)), (6, .int (iv x6)), (7, .int (iv x7)), (8, .int (iv x8)), (9, .int (iv x9)), (10, .int (iv x10)), (11, .int (iv x11))] → W p l e ({ frames := 1, cells := 0, slots := 0, locals := 24 } : Room) s m args below meth c H locs 0 0 (MQ below (Qi D ct ad L φ N0 Q) args s 0 0 (AA N0)) (F0 m 36 ls []) := by
  have hF := X.2.2.2.2.2.2.2.2.1
  intro n
  induction n with
  | zero => intro σ x1 x2 x3 x4 x6 x7 x8 x9 x10 x11 H locs ls hw; exact hw.elim
  | succ n ih =>
    intro σ x1 x2 x3 x4 x6 x7 x8 x9 x10 x11 H locs ls hw h hl
    unfold wp_X5_bestCut_36 at hw
    refine lv_iload X.1 X.2.1 dX5_bestCut_36 (lv_at hl 10 rfl) ?_
    refine lv_iload X.1 X.2.1 dX5_bestCut_38 (lv_at hl 4 rfl) ?_
    obtain ⟨g_1, g_2, hwt, hwf⟩ := hw
    refine j_cmp_gt (tgt := 128) X g_1 g_2 dX5_bestCut_40 (by decide) (fun c_24 => ?_) (fun c_24 => ?_)
    · have hw := hwt c_24
      exact hK128 σ x1 x2 x3 x4 x6 x7 x8 x9 x10 _ _ _ hw h (lv_sub hl [0, 1, 2, 3, 4, 5, 6, 7, 8, 9] rfl)
    · have hw := hwf c_24
      refine j_iconst X dX5_bestCut_43 ?_
      refine lv_iload X.1 X.2.1 dX5_bestCut_44 (lv_at hl 9 rfl) ?_
      refine j_imul X dX5_bestCut_46 ?_
      refine j_iconst X dX5_bestCut_47 ?_
      refine lv_iload X.1 X.2.1 dX5_bestCut_48 (lv_at hl 10 rfl) ?_
      refine j_imul X dX5_bestCut_50 ?_
      refine j_iadd X dX5_bestCut_51 ?_
      refine j_bind (fun v_3 ev_3 => ?_)
      have hw := hw v_3 ev_3
      refine lv_istore (lv' := [(12, .int (iv v_3)), (0, .ref (ad 5 0)), (1, .int (iv x1)), (2, .int (iv x2)), (3, .int (iv x3)), (4, .int (iv x4)), (6, .int (iv x6)), (7, .int (iv x7)), (8, .int (iv x8)), (9, .int (iv x9)), (10, .int (iv x10)), (11, .int (iv x11))]) X.1 X.2.1 dX5_bestCut_52 hl (by decide) rfl (fun ls hl => ?_)
      refine lv_aload_n X.1 X.2.1 dX5_bestCut_54 rfl (lv_at hl 1 rfl) ?_
      refine r_getR (ci := 5) X inw_5 h (hF.1 5 rfl).1 rfl rfl 12 (by decide) kw_397 rfl ((hF.1 5 rfl).2 12) dX5_bestCut_55 ?_
      refine lv_iload_n X.1 X.2.1 dX5_bestCut_58 rfl (lv_at hl 2 rfl) ?_
      refine j_iconst X dX5_bestCut_59 ?_
      refine j_iadd X dX5_bestCut_60 ?_
      obtain ⟨g_4, g_5, hw⟩ := hw
      refine r_aaS (n := 9) X h (hF.1 52 rfl).1 rfl ((hF.1 52 rfl).2 _) (by decide) g_4 g_5 dX5_bestCut_61 ?_
      refine lv_iload X.1 X.2.1 dX5_bestCut_62 (lv_at hl 10 rfl) ?_
      refine lv_iload X.1 X.2.1 dX5_bestCut_64 (lv_at hl 11 rfl) ?_
      refine j_iadd X dX5_bestCut_66 ?_
      refine lv_iload_n X.1 X.2.1 dX5_bestCut_67 rfl (lv_at hl 3 rfl) ?_
      refine lv_iload_n X.1 X.2.1 dX5_bestCut_68 rfl (lv_at hl 4 rfl) ?_
      refine k_i h (r_S (As := [.int (iv (x10 + x11)), .int (iv x2), .int (iv x3)]) (rest := [.ref (ad 53 (Int.toNat (x1 + 1)))]) X h (c_X5_state l D ct ad L φ N0 σ (x10 + x11) x2 x3 _ hw) rfl rfl ⟨Nat.le_of_ble_eq_true rfl, Nat.le_of_ble_eq_true rfl⟩ kw_1407 kw_1408 kw_127 kw_1409 pd_X5_state rfl hl.1 rfl (Nat.le_of_ble_eq_true rfl) ⟨Nat.le_of_ble_eq_true rfl, Nat.le_of_ble_eq_true rfl⟩ dX5_bestCut_69) (fun r_7 σ_6 H locs hw h => ?_)
      obtain ⟨g_8, g_9, g_10, hw⟩ := hw
      refine r_iald (n := 455) X h (hF.2.2.1 (Int.toNat (x1 + 1)) g_8) rfl (by decide) g_9 g_10 dX5_bestCut_72 ?_
      refine j_bind (fun v_11 ev_11 => ?_)
      have hw := hw v_11 ev_11
      refine lv_istore (lv' := [(13, .int (iv v_11)), (12, .int (iv v_3)), (0, .ref (ad 5 0)), (1, .int (iv x1)), (2, .int (iv x2)), (3, .int (iv x3)), (4, .int (iv x4)), (6, .int (iv x6)), (7, .int (iv x7)), (8, .int (iv x8)), (9, .int (iv x9)), (10, .int (iv x10)), (11, .int (iv x11))]) X.1 X.2.1 dX5_bestCut_73 hl (by decide) rfl (fun ls hl => ?_)
      refine lv_iload X.1 X.2.1 dX5_bestCut_75 (lv_at hl 1 rfl) ?_
      refine lv_iload X.1 X.2.1 dX5_bestCut_77 (lv_at hl 7 rfl) ?_
      refine lv_iload X.1 X.2.1 dX5_bestCut_79 (lv_at hl 8 rfl) ?_
      refine k_i h (r_SN (As := [.int (iv v_3), .int (iv x6), .int (iv x7)]) (rest := []) X h (c_X11_within l D ct ad L φ N0 σ_6 v_3 x6 x7 _ hw) rfl rfl ⟨Nat.le_of_ble_eq_true rfl, Nat.le_of_ble_eq_true rfl⟩ kw_1418 kw_527 kw_120 kw_528 pd_X11_within rfl hl.1 rfl (Nat.le_of_ble_eq_true rfl) ⟨Nat.le_of_ble_eq_true rfl, Nat.le_of_ble_eq_true rfl⟩ dX5_bestCut_81) (fun r_13 σ_12 H locs hw h => ?_)
      obtain ⟨g_14, hwt, hwf⟩ := hw
      refine j_if_eq (tgt := 122) X g_14 dX5_bestCut_84 (by decide) (fun c_23 => ?_) (fun c_23 => ?_)
      · have hw := hwt c_23
        exact lb_X5_bestCut_122 X ih hK128 σ_12 x1 x2 x3 x4 x6 x7 x8 x9 x10 x11 _ _ _ hw h (lv_sub hl [2, 3, 4, 5, 6, 7, 8, 9, 10, 11, 12] rfl)
      · have hw := hwf c_23
        refine lv_iload X.1 X.2.1 dX5_bestCut_87 (lv_at hl 0 rfl) ?_
        refine j_iconst X dX5_bestCut_89 ?_
        obtain ⟨g_15, hwt, hwf⟩ := hw
        refine j_cmp_eq (tgt := 122) X g_15 ⟨by decide, by decide⟩ dX5_bestCut_90 (by decide) (fun c_22 => ?_) (fun c_22 => ?_)
        · have hw := hwt c_22
          exact lb_X5_bestCut_122 X ih hK128 σ_12 x1 x2 x3 x4 x6 x7 x8 x9 x10 x11 _ _ _ hw h (lv_sub hl [2, 3, 4, 5, 6, 7, 8, 9, 10, 11, 12] rfl)
        · have hw := hwf c_22
          refine lv_iload X.1 X.2.1 dX5_bestCut_93 (lv_at hl 1 rfl) ?_
          refine lv_iload X.1 X.2.1 dX5_bestCut_95 (lv_at hl 0 rfl) ?_
          refine j_iadd X dX5_bestCut_97 ?_
          refine lv_iload X.1 X.2.1 dX5_bestCut_98 (lv_at hl 10 rfl) ?_
          obtain ⟨g_16, g_17, hwt, hwf⟩ := hw
          refine j_cmp_le (tgt := 122) X g_16 g_17 dX5_bestCut_100 (by decide) (fun c_21 => ?_) (fun c_21 => ?_)
          · have hw := hwt c_21
            exact lb_X5_bestCut_122 X ih hK128 σ_12 x1 x2 x3 x4 x6 x7 x8 x9 x10 x11 _ _ _ hw h (lv_sub hl [2, 3, 4, 5, 6, 7, 8, 9, 10, 11, 12] rfl)
          · have hw := hwf c_21
            refine lv_iload X.1 X.2.1 dX5_bestCut_103 (lv_at hl 1 rfl) ?_
            refine lv_iload X.1 X.2.1 dX5_bestCut_105 (lv_at hl 0 rfl) ?_
            refine j_iadd X dX5_bestCut_107 ?_
            refine j_bind (fun v_18 ev_18 => ?_)
            have hw := hw v_18 ev_18
            refine lv_istore (lv' := [(9, .int (iv v_18)), (13, .int (iv v_11)), (12, .int (iv v_3)), (0, .ref (ad 5 0)), (1, .int (iv x1)), (2, .int (iv x2)), (3, .int (iv x3)), (4, .int (iv x4)), (6, .int (iv x6)), (7, .int (iv x7)), (8, .int (iv x8)), (10, .int (iv x10)), (11, .int (iv x11))]) X.1 X.2.1 dX5_bestCut_108 hl (by decide) rfl (fun ls hl => ?_)
            refine lv_aload_n X.1 X.2.1 dX5_bestCut_110 rfl (lv_at hl 3 rfl) ?_
            refine lv_iload X.1 X.2.1 dX5_bestCut_111 (lv_at hl 11 rfl) ?_
            refine r_put (ci := 5) X inw_5 tyX5 tyX5_ok nmX5 h (hF.1 5 rfl).1 rfl rfl 13 (by decide) kw_398 rfl rfl rfl (Nat.le_of_ble_eq_true rfl) rfl rfl dX5_bestCut_113 (fun H locs h => ?_)
            obtain ⟨σ_19, eσ_19⟩ : ∃ z : St, z = st σ_12 5 0 13 x10 := ⟨_, rfl⟩
            rw [← eσ_19] at h
            have hw := hw σ_19 eσ_19
            refine lv_aload_n X.1 X.2.1 dX5_bestCut_116 rfl (lv_at hl 3 rfl) ?_
            refine lv_iload X.1 X.2.1 dX5_bestCut_117 (lv_at hl 12 rfl) ?_
            refine r_put (ci := 5) X inw_5 tyX5 tyX5_ok nmX5 h (hF.1 5 rfl).1 rfl rfl 14 (by decide) kw_399 rfl rfl rfl (Nat.le_of_ble_eq_true rfl) rfl rfl dX5_bestCut_119 (fun H locs h => ?_)
            obtain ⟨σ_20, eσ_20⟩ : ∃ z : St, z = st σ_19 5 0 14 x11 := ⟨_, rfl⟩
            rw [← eσ_20] at h
            have hw := hw σ_20 eσ_20
            exact lb_X5_bestCut_122 X ih hK128 σ_20 x1 x2 x3 x4 x6 x7 x8 v_18 x10 x11 _ _ _ hw h (lv_sub hl [3, 4, 5, 6, 7, 8, 9, 10, 0, 11, 12] rfl)
set_option maxRecDepth 100000 in
set_option maxHeartbeats 4000000 in
theorem lb_X5_bestCut_17 (X : Cx p s m meth c args cX5_bestCut 14 (some .int) RX5 D ct L φ N0) : ∀ (n : Nat) (σ : St) (x1 : Int) (x2 : Int) (x3 : Int) (x4 : Int) (x6 : Int) (x7 : Int) (x8 : Int) (x9 : Int) (x10 : Int) (H : Heap) (locs : List Loc) (ls : Array Slot), wp_X5_bestCut_17 Q n σ x1 x2 x3 x4 x6 x7 x8 x9 x10 → Hs D ct ad L φ N0 s.heap σ H locs → lv_has ls 14 [(0, .ref (ad 5 0)), (1, .int (iv x1)), (2, .int (iv x2)), (3, .int (iv x3)), (4, .int (iv x4)), (6, .int (iv x6)), (7, .int (iv x7)), (8, .int (iv x8)), (9, .int (iv x9)), (10, .int (iv x10))] → W p l e ({ frames := 1, cells := 0, slots := 0, locals := 24 } : Room) s m args below meth c H locs 0 0 (MQ below (Qi D ct ad L φ N0 Q) args s 0 0 (AA N0)) (F0 m 17 ls []) := by
  have hF := X.2.2.2.2.2.2.2.2.1
  intro n
  induction n with
  | zero => intro σ x1 x2 x3 x4 x6 x7 x8 x9 x10 H locs ls hw; exact hw.elim
  | succ n ih =>
    intro σ x1 x2 x3 x4 x6 x7 x8 x9 x10 H locs ls hw h hl
    unfold wp_X5_bestCut_17 at hw
    refine lv_iload X.1 X.2.1 dX5_bestCut_17 (lv_at hl 9 rfl) ?_
    refine lv_iload X.1 X.2.1 dX5_bestCut_19 (lv_at hl 7 rfl) ?_
    obtain ⟨g_25, g_26, hwt, hwf⟩ := hw
    refine j_cmp_gt (tgt := 134) X g_25 g_26 dX5_bestCut_21 (by decide) (fun c_30 => ?_) (fun c_30 => ?_)
    · have hw := hwt c_30
      refine lv_iload X.1 X.2.1 dX5_bestCut_134 (lv_at hl 8 rfl) ?_
      exact k_ir X rfl h hw dX5_bestCut_136
    · have hw := hwf c_30
      refine j_iconst X dX5_bestCut_24 ?_
      refine lv_iload X.1 X.2.1 dX5_bestCut_25 (lv_at hl 9 rfl) ?_
      refine j_imul X dX5_bestCut_27 ?_
      refine lv_iload X.1 X.2.1 dX5_bestCut_28 (lv_at hl 6 rfl) ?_
      obtain ⟨g_27, g_28, hwt, hwf⟩ := hw
      refine j_cmp_gt (tgt := 134) X g_27 g_28 dX5_bestCut_30 (by decide) (fun c_29 => ?_) (fun c_29 => ?_)
      · have hw := hwt c_29
        refine lv_iload X.1 X.2.1 dX5_bestCut_134 (lv_at hl 8 rfl) ?_
        exact k_ir X rfl h hw dX5_bestCut_136
      · have hw := hwf c_29
        refine j_iconst X dX5_bestCut_33 ?_
        refine lv_istore (lv' := [(11, .int (iv 0)), (0, .ref (ad 5 0)), (1, .int (iv x1)), (2, .int (iv x2)), (3, .int (iv x3)), (4, .int (iv x4)), (6, .int (iv x6)), (7, .int (iv x7)), (8, .int (iv x8)), (9, .int (iv x9)), (10, .int (iv x10))]) X.1 X.2.1 dX5_bestCut_34 hl (by decide) rfl (fun ls hl => ?_)
        exact hw.elim (fun n36 hw => lb_X5_bestCut_36 X (lb_X5_bestCut_128 X ih) n36 σ x1 x2 x3 x4 x6 x7 x8 x9 x10 0 _ _ _ hw h (lv_sub hl [1, 2, 3, 4, 5, 6, 7, 8, 9, 10, 0] rfl))
theorem pd_X5_bestCut : yX5_bestCut.cls ≠ "java/lang/invoke/MethodHandle" ∧ yX5_bestCut.cls ≠ "java/lang/invoke/VarHandle" ∧ (parseMethodDescriptor yX5_bestCut.desc).map (fun d => d.parameters.length) = some 7 := by decide +kernel
set_option maxRecDepth 100000 in
set_option maxHeartbeats 4000000 in
theorem c_X5_bestCut (l : Launch) (D : va_G) (ct : Nat → ClassId) (ad : Nat → Nat → Nat) (L : List (Nat × Nat)) (φ : Nat → Nat → Nat → Bool) (N0 : Nat) (σ : St) (x1 : Int) (x2 : Int) (x3 : Int) (x4 : Int) (x5 : Int) (x6 : Int) (x7 : Int) (Q : Int → St → Prop) (hw : wp_X5_bestCut σ x1 x2 x3 x4 x5 x6 x7 Q) : Met l yX5_bestCut (.code yX5_bestCut cX5_bestCut 14 (some .int) :: gw) ({ frames := 1, cells := 0, slots := 0, locals := 24 } : Room) (Pm D ct ad L φ N0 σ [.ref (ad 5 0), .int (iv x1), .int (iv x2), .int (iv x3), .int (iv x4), .int (iv x5), .int (iv x6), .int (iv x7)]) (Qi D ct ad L φ N0 Q) 0 0 (AA N0) := by
  refine m_of (by decide) (fun p e s m below meth c X hnm h => ?_)
  have hF := X.2.2.2.2.2.2.2.2.1
  have hl := lv_entry ([.ref (ad 5 0), .int (iv x1), .int (iv x2), .int (iv x3), .int (iv x4), .int (iv x5), .int (iv x6), .int (iv x7)]) (n := 14) (Nat.le_of_ble_eq_true rfl)
  rw [lg_entry_eq]
  generalize (lg_sl ([.ref (ad 5 0), .int (iv x1), .int (iv x2), .int (iv x3), .int (iv x4), .int (iv x5), .int (iv x6), .int (iv x7)]) ++ List.replicate (14 - (lg_sl ([.ref (ad 5 0), .int (iv x1), .int (iv x2), .int (iv x3), .int (iv x4), .int (iv x5), .int (iv x6), .int (iv x7)])).length) Slot.unset).toArray = ls at hl ⊢
  have hl : lv_has ls 14 [(0, .ref (ad 5 0)), (1, .int (iv x1)), (2, .int (iv x2)), (3, .int (iv x3)), (4, .int (iv x4)), (5, .int (iv x5)), (6, .int (iv x6)), (7, .int (iv x7))] := hl
  have h : Hs D ct ad L φ N0 s.heap σ s.heap [] := h
  unfold wp_X5_bestCut at hw
  refine lv_iload X.1 X.2.1 dX5_bestCut_0 (lv_at hl 5 rfl) ?_
  refine lv_iload_n X.1 X.2.1 dX5_bestCut_2 rfl (lv_at hl 2 rfl) ?_
  refine j_isub X dX5_bestCut_3 ?_
  refine lv_iload_n X.1 X.2.1 dX5_bestCut_4 rfl (lv_at hl 3 rfl) ?_
  refine j_isub X dX5_bestCut_5 ?_
  refine lv_iload X.1 X.2.1 dX5_bestCut_6 (lv_at hl 4 rfl) ?_
  refine j_isub X dX5_bestCut_8 ?_
  refine j_bind (fun v_31 ev_31 => ?_)
  have hw := hw v_31 ev_31
  refine lv_istore (lv' := [(8, .int (iv v_31)), (0, .ref (ad 5 0)), (1, .int (iv x1)), (2, .int (iv x2)), (3, .int (iv x3)), (4, .int (iv x4)), (5, .int (iv x5)), (6, .int (iv x6)), (7, .int (iv x7))]) X.1 X.2.1 dX5_bestCut_9 hl (by decide) rfl (fun ls hl => ?_)
  refine j_iconst X dX5_bestCut_11 ?_
  refine lv_istore (lv' := [(9, .int (iv (-1))), (8, .int (iv v_31)), (0, .ref (ad 5 0)), (1, .int (iv x1)), (2, .int (iv x2)), (3, .int (iv x3)), (4, .int (iv x4)), (5, .int (iv x5)), (6, .int (iv x6)), (7, .int (iv x7))]) X.1 X.2.1 dX5_bestCut_12 hl (by decide) rfl (fun ls hl => ?_)
  refine j_iconst X dX5_bestCut_14 ?_
  refine lv_istore (lv' := [(10, .int (iv 0)), (9, .int (iv (-1))), (8, .int (iv v_31)), (0, .ref (ad 5 0)), (1, .int (iv x1)), (2, .int (iv x2)), (3, .int (iv x3)), (4, .int (iv x4)), (5, .int (iv x5)), (6, .int (iv x6)), (7, .int (iv x7))]) X.1 X.2.1 dX5_bestCut_15 hl (by decide) rfl (fun ls hl => ?_)
  exact hw.elim (fun n17 hw => lb_X5_bestCut_17 X n17 σ x1 x2 x3 x4 x6 x7 v_31 (-1) 0 _ _ _ hw h (lv_sub hl [3, 4, 5, 6, 7, 9, 10, 2, 1, 0] rfl))
end
section
variable {p : Program} {l : Launch} {e : Env} {s : State} {m : MethodId} {args : Array Value} {below : List Frame} {meth : Method} {c : Code} {D : va_G} {ct : Nat → ClassId} {ad : Nat → Nat → Nat} {L : List (Nat × Nat)} {φ : Nat → Nat → Nat → Bool} {N0 : Nat}
variable {Q : St → Prop}
set_option maxRecDepth 100000 in
set_option maxHeartbeats 4000000 in
theorem lb_X5_weighPeriod_135 (X : Cx p s m meth c args cX5_weighPeriod 10 none RX5 D ct L φ N0) {K3 : St → Int → Int → Int → Int → Int → Int → Prop} (hK3 : ∀ (σ : St) (x1 : Int) (x2 : Int) (x3 : Int) (x4 : Int) (x5 : Int) (x6 : Int) (H : Heap) (locs : List Loc) (ls : Array Slot), K3 σ x1 x2 x3 x4 x5 x6 → Hs D ct ad L φ N0 s.heap σ H locs → lv_has ls 10 [(0, .ref (ad 5 0)), (1, .int (iv x1)), (2, .int (iv x2)), (3, .int (iv x3)), (4, .int (iv x4)), (5, .int (iv x5)), (6, .int (iv x6))] → W p l e ({ frames := 2, cells := 0, slots := 0, locals := 57 } : Room) s m args below meth c H locs 0 0 (MQ below (Qv D ct ad L φ N0 Q) args s 0 0 (AA N0)) (F0 m 3 ls [])) (σ : St) (x1 : Int) (x2 : Int) (x3 : Int) (x4 : Int) (x5 : Int) (x6 : Int) (H : Heap) (locs : List Loc) (ls : Array Slot) (hw : wp_X5_weighPeriod_135 K3 Q σ x1 x2 x3 x4 x5 x6) (h : Hs D ct ad L φ N0 s.heap σ H locs) (hl : lv_has ls 10 [(0, .ref (ad 5 0)), (1, .int (iv x1)), (2, .int (iv x2)), (3, .int (iv x3)), (4, .int (iv x4)), (5, .int (iv x5)), (6, .int (iv x6))]) : W p l e ({ frames := 2, cells := 0, slots := 0, locals := 57 } : Room) s m args below meth c H locs 0 0 (MQ below (Qv D ct ad L φ N0 Q) args s 0 0 (AA N0)) (F0 m 135 ls []) := by
  have hF := X.2.2.2.2.2.2.2.2.1
  unfold wp_X5_weighPeriod_135 at hw
  refine j_iinc (kk9 := 6) (lv' := [(6, .int (iv (x6 + 1))), (0, .ref (ad 5 0)), (1, .int (iv x1)), (2, .int (iv x2)), (3, .int (iv x3)), (4, .int (iv x4)), (5, .int (iv x5))]) X dX5_weighPeriod_135 hl rfl (by decide) rfl (fun ls hl => ?_)
  refine lv_goto (tgt := 3) X.1 X.2.1 dX5_weighPeriod_138 (by decide) ?_
  exact hK3 σ x1 x2 x3 x4 x5 (x6 + 1) _ _ _ hw h (lv_sub hl [1, 2, 3, 4, 5, 6, 0] rfl)
set_option maxRecDepth 100000 in
set_option maxHeartbeats 4000000 in
theorem lb_X5_weighPeriod_129 (X : Cx p s m meth c args cX5_weighPeriod 10 none RX5 D ct L φ N0) {K12 : St → Int → Int → Int → Int → Int → Int → Int → Prop} {K135 : St → Int → Int → Int → Int → Int → Int → Prop} (hK12 : ∀ (σ : St) (x1 : Int) (x2 : Int) (x3 : Int) (x4 : Int) (x5 : Int) (x6 : Int) (x7 : Int) (H : Heap) (locs : List Loc) (ls : Array Slot), K12 σ x1 x2 x3 x4 x5 x6 x7 → Hs D ct ad L φ N0 s.heap σ H locs → lv_has ls 10 [(0, .ref (ad 5 0)), (1, .int (iv x1)), (2, .int (iv x2)), (3, .int (iv x3)), (4, .int (iv x4)), (5, .int (iv x5)), (6, .int (iv x6)), (7, .int (iv x7))] → W p l e ({ frames := 2, cells := 0, slots := 0, locals := 57 } : Room) s m args below meth c H locs 0 0 (MQ below (Qv D ct ad L φ N0 Q) args s 0 0 (AA N0)) (F0 m 12 ls [])) (hK135 : ∀ (σ : St) (x1 : Int) (x2 : Int) (x3 : Int) (x4 : Int) (x5 : Int) (x6 : Int) (H : Heap) (locs : List Loc) (ls : Array Slot), K135 σ x1 x2 x3 x4 x5 x6 → Hs D ct ad L φ N0 s.heap σ H locs → lv_has ls 10 [(0, .ref (ad 5 0)), (1, .int (iv x1)), (2, .int (iv x2)), (3, .int (iv x3)), (4, .int (iv x4)), (5, .int (iv x5)), (6, .int (iv x6))] → W p l e ({ frames := 2, cells := 0, slots := 0, locals := 57 } : Room) s m args below meth c H locs 0 0 (MQ below (Qv D ct ad L φ N0 Q) args s 0 0 (AA N0)) (F0 m 135 ls [])) (σ : St) (x1 : Int) (x2 : Int) (x3 : Int) (x4 : Int) (x5 : Int) (x6 : Int) (x7 : Int) (H : Heap) (locs : List Loc) (ls : Array Slot) (hw : wp_X5_weighPeriod_129 K12 K135 Q σ x1 x2 x3 x4 x5 x6 x7) (h : Hs D ct ad L φ N0 s.heap σ H locs) (hl : lv_has ls 10 [(0, .ref (ad 5 0)), (1, .int (iv x1)), (2, .int (iv x2)), (3, .int (iv x3)), (4, .int (iv x4)), (5, .int (iv x5)), (6, .int (iv x6)), (7, .int (iv x7))]) : W p l e ({ frames := 2, cells := 0, slots := 0, locals := 57 } : Room) s m args below meth c H locs 0 0 (MQ below (Qv D ct ad L φ N0 Q) args s 0 0 (AA N0)) (F0 m 129 ls []) := by
  have hF := X.2.2.2.2.2.2.2.2.1
  unfold wp_X5_weighPeriod_129 at hw
  refine j_iinc (kk9 := 7) (lv' := [(7, .int (iv (x7 + 1))), (0, .ref (ad 5 0)), (1, .int (iv x1)), (2, .int (iv x2)), (3, .int (iv x3)), (4, .int (iv x4)), (5, .int (iv x5)), (6, .int (iv x6))]) X dX5_weighPeriod_129 hl rfl (by decide) rfl (fun ls hl => ?_)
  refine lv_goto (tgt := 12) X.1 X.2.1 dX5_weighPeriod_132 (by decide) ?_
  exact hK12 σ x1 x2 x3 x4 x5 x6 (x7 + 1) _ _ _ hw h (lv_sub hl [1, 2, 3, 4, 5, 6, 7, 0] rfl)
set_option maxRecDepth 100000 in
set_option maxHeartbeats 4000000 in
theorem lb_X5_weighPeriod_123 (X : Cx p s m meth c args cX5_weighPeriod 10 none RX5 D ct L φ N0) {K24 : St → Int → Int → Int → Int → Int → Int → Int → Int → Prop} {K129 : St → Int → Int → Int → Int → Int → Int → Int → Prop} (hK24 : ∀ (σ : St) (x1 : Int) (x2 : Int) (x3 : Int) (x4 : Int) (x5 : Int) (x6 : Int) (x7 : Int) (x8 : Int) (H : Heap) (locs : List Loc) (ls : Array Slot), K24 σ x1 x2 x3 x4 x5 x6 x7 x8 → Hs D ct ad L φ N0 s.heap σ H locs → lv_has ls 10 [(0, .ref (ad 5 0)), (1, .int (iv x1)), (2, .int (iv x2)), (3, .int (iv x3)), (4, .int (iv x4)), (5, .int (iv x5)), (6, .int (iv x6)), (7, .int (iv x7)), (8, .int (iv x8))] → W p l e ({ frames := 2, cells := 0, slots := 0, locals := 57 } : Room) s m args below meth c H locs 0 0 (MQ below (Qv D ct ad L φ N0 Q) args s 0 0 (AA N0)) (F0 m 24 ls [])) (hK129 : ∀ (σ : St) (x1 : Int) (x2 : Int) (x3 : Int) (x4 : Int) (x5 : Int) (x6 : Int) (x7 : Int) (H : Heap) (locs : List Loc) (ls : Array Slot), K129 σ x1 x2 x3 x4 x5 x6 x7 → Hs D ct ad L φ N0 s.heap σ H locs → lv_has ls 10 [(0, .ref (ad 5 0)), (1, .int (iv x1)), (2, .int (iv x2)), (3, .int (iv x3)), (4, .int (iv x4)), (5, .int (iv x5)), (6, .int (iv x6)), (7, .int (iv x7))] → W p l e ({ frames := 2, cells := 0, slots := 0, locals := 57 } : Room) s m args below meth c H locs 0 0 (MQ below (Qv D ct ad L φ N0 Q) args s 0 0 (AA N0)) (F0 m 129 ls [])) (σ : St) (x1 : Int) (x2 : Int) (x3 : Int) (x4 : Int) (x5 : Int) (x6 : Int) (x7 : Int) (x8 : Int) (H : Heap) (locs : List Loc) (ls : Array Slot) (hw : wp_X5_weighPeriod_123 K24 K129 Q σ x1 x2 x3 x4 x5 x6 x7 x8) (h : Hs D ct ad L φ N0 s.heap σ H locs) (hl : lv_has ls 10 [(0, .ref (ad 5 0)), (1, .int (iv x1)), (2, .int (iv x2)), (3, .int (iv x3)), (4, .int (iv x4)), (5, .int (iv x5)), (6, .int (iv x6)), (7, .int (iv x7)), (8, .int (iv x8))]) : W p l e ({ frames := 2, cells := 0, slots := 0, locals := 57 } : Room) s m args below meth c H locs 0 0 (MQ below (Qv D ct ad L φ N0 Q) args s 0 0 (AA N0)) (F0 m 123 ls []) := by
  have hF := X.2.2.2.2.2.2.2.2.1
  unfold wp_X5_weighPeriod_123 at hw
  refine j_iinc (kk9 := 8) (lv' := [(8, .int (iv (x8 + 1))), (0, .ref (ad 5 0)), (1, .int (iv x1)), (2, .int (iv x2)), (3, .int (iv x3)), (4, .int (iv x4)), (5, .int (iv x5)), (6, .int (iv x6)), (7, .int (iv x7))]) X dX5_weighPeriod_123 hl rfl (by decide) rfl (fun ls hl => ?_)
  refine lv_goto (tgt := 24) X.1 X.2.1 dX5_weighPeriod_126 (by decide) ?_
  exact hK24 σ x1 x2 x3 x4 x5 x6 x7 (x8 + 1) _ _ _ hw h (lv_sub hl [1, 2, 3, 4, 5, 6, 7, 8, 0] rfl)
set_option maxRecDepth 100000 in
set_option maxHeartbeats 4000000 in
theorem lb_X5_weighPeriod_81 (X : Cx p s m meth c args cX5_weighPeriod 10 none RX5 D ct L φ N0) {K24 : St → Int → Int → Int → Int → Int → Int → Int → Int → Prop} {K129 : St → Int → Int → Int → Int → Int → Int → Int → Prop} (hK24 : ∀ (σ : St) (x1 : Int) (x2 : Int) (x3 : Int) (x4 : Int) (x5 : Int) (x6 : Int) (x7 : Int) (x8 : Int) (H : Heap) (locs : List Loc) (ls : Array Slot), K24 σ x1 x2 x3 x4 x5 x6 x7 x8 → Hs D ct ad L φ N0 s.heap σ H locs → lv_has ls 10 [(0, .ref (ad 5 0)), (1, .int (iv x1)), (2, .int (iv x2)), (3, .int (iv x3)), (4, .int (iv x4)), (5, .int (iv x5)), (6, .int (iv x6)), (7, .int (iv x7)), (8, .int (iv x8))] → W p l e ({ frames := 2, cells := 0, slots := 0, locals := 57 } : Room) s m args below meth c H locs 0 0 (MQ below (Qv D ct ad L φ N0 Q) args s 0 0 (AA N0)) (F0 m 24 ls [])) (hK129 : ∀ (σ : St) (x1 : Int) (x2 : Int) (x3 : Int) (x4 : Int) (x5 : Int) (x6 : Int) (x7 : Int) (H : Heap) (locs : List Loc) (ls : Array Slot), K129 σ x1 x2 x3 x4 x5 x6 x7 → Hs D ct ad L φ N0 s.heap σ H locs → lv_has ls 10 [(0, .ref (ad 5 0)), (1, .int (iv x1)), (2, .int (iv x2)), (3, .int (iv x3)), (4, .int (iv x4)), (5, .int (iv x5)), (6, .int (iv x6)), (7, .int (iv x7))] → W p l e ({ frames := 2, cells := 0, slots := 0, locals := 57 } : Room) s m args below meth c H locs 0 0 (MQ below (Qv D ct ad L φ N0 Q) args s 0 0 (AA N0)) (F0 m 129 ls [])) (σ : St) (x1 : Int) (x2 : Int) (x3 : Int) (x4 : Int) (x5 : Int) (x6 : Int) (x7 : Int) (x8 : Int) (y0 : Int) (y1 : Int) (z2 : Nat) (H : Heap) (locs : List Loc) (ls : Array Slot) (hw : wp_X5_weighPeriod_81 K24 K129 Q σ x1 x2 x3 x4 x5 x6 x7 x8 y0 y1 z2) (h : Hs D ct ad L φ N0 s.heap σ H locs) (hl : lv_has ls 10 [(0, .ref (ad 5 0)), (1, .int (iv x1)), (2, .int (iv x2)), (3, .int (iv x3)), (4, .int (iv x4)), (5, .int (iv x5)), (6, .int (iv x6)), (7, .int (iv x7)), (8, .int (iv x8))]) : W p l e ({ frames := 2, cells := 0, slots := 0, locals := 57 } : Room) s m args below meth c H locs 0 0 (MQ below (Qv D ct ad L φ N0 Q) args s 0 0 (AA N0)) (F0 m 81 ls [.int (iv y0), .int (iv y1), .ref (ad 53 z2)]) := by
  have hF := X.2.2.2.2.2.2.2.2.1
  unfold wp_X5_weighPeriod_81 at hw
  obtain ⟨g_1, g_2, g_3, hw⟩ := hw
  refine r_iast (n := 455) X h (hF.2.2.1 z2 g_1) (fun _ => rfl) (by decide) g_2 g_3 rfl dX5_weighPeriod_81 (fun H locs h => ?_)
  obtain ⟨σ_4, eσ_4⟩ : ∃ z : St, z = st σ 53 z2 (Int.toNat y1) y0 := ⟨_, rfl⟩
  rw [← eσ_4] at h
  have hw := hw σ_4 eσ_4
  refine lv_goto (tgt := 123) X.1 X.2.1 dX5_weighPeriod_82 (by decide) ?_
  exact lb_X5_weighPeriod_123 X hK24 hK129 σ_4 x1 x2 x3 x4 x5 x6 x7 x8 _ _ _ hw h (lv_sub hl [0, 1, 2, 3, 4, 5, 6, 7, 8] rfl)
set_option maxRecDepth 100000 in
set_option maxHeartbeats 4000000 in
theorem lb_X5_weighPeriod_24 (X : Cx p s m meth c args cX5_weighPeriod 10 none RX5 D ct L φ N0) {K129 : St → Int → Int → Int → Int → Int → Int → Int → Prop} (hK129 : ∀ (σ : St) (x1 : Int) (x2 : Int) (x3 : Int) (x4 : Int) (x5 : Int) (x6 : Int) (x7 : Int) (H : Heap) (locs : List Loc) (ls : Array Slot), K129 σ x1 x2 x3 x4 x5 x6 x7 → Hs D ct ad L φ N0 s.heap σ H locs → lv_has ls 10 [(0, .ref (ad 5 0)), (1, .int (iv x1)), (2, .int (iv x2)), (3, .int (iv x3)), (4, .int (iv x4)), (5, .int (iv x5)), (6, .int (iv x6)), (7, .int (iv x7))] → W p l e ({ frames := 2, cells := 0, slots := 0, locals := 57 } : Room) s m args below meth c H locs 0 0 (MQ below (Qv D ct ad L φ N0 Q) args s 0 0 (AA N0)) (F0 m 129 ls [])) : ∀ (n : Nat) (σ : St) (x1 : Int) (x2 : Int) (x3 : Int) (x4 : Int) (x5 : Int) (x6 : Int) (x7 : Int) (x8 : Int) (H : Heap) (locs : List Loc) (ls : Array Slot), wp_X5_weighPeriod_24 K129 Q n σ x1 x2 x3 x4 x5 x6 x7 x8 → Hs D ct ad L φ N0 s.heap σ H locs → lv_has ls 10 [(0, .ref (ad 5 0)), (1, .int (iv x1)), (2, .int (iv x2)), (3, .int (iv x3)), (4, .int (iv x4)), (5, .int (iv x5)), (6, .int (iv x6)), (7, .int (iv x7)), (8, .int (iv x8))] → W p l e ({ frames := 2, cells := 0, slots := 0, locals := 57 } : Room) s m args below meth c H locs 0 0 (MQ below (Qv D ct ad L φ N0 Q) args s 0 0 (AA N0)) (F0 m 24 ls []) := by
  have hF := X.2.2.2.2.2.2.2.2.1
  intro n
  induction n with
  | zero => intro σ x1 x2 x3 x4 x5 x6 x7 x8 H locs ls hw; exact hw.elim
  | succ n ih =>
    intro σ x1 x2 x3 x4 x5 x6 x7 x8 H locs ls hw h hl
    unfold wp_X5_weighPeriod_24 at hw
    refine lv_iload X.1 X.2.1 dX5_weighPeriod_24 (lv_at hl 6 rfl) ?_
    refine lv_iload X.1 X.2.1 dX5_weighPeriod_26 (lv_at hl 7 rfl) ?_
    refine j_iadd X dX5_weighPeriod_28 ?_
    refine lv_iload X.1 X.2.1 dX5_weighPeriod_29 (lv_at hl 8 rfl) ?_
    refine j_iadd X dX5_weighPeriod_31 ?_
    refine lv_iload_n X.1 X.2.1 dX5_weighPeriod_32 rfl (lv_at hl 2 rfl) ?_
    obtain ⟨g_5, g_6, hwt, hwf⟩ := hw
    refine j_cmp_gt (tgt := 129) X g_5 g_6 dX5_weighPeriod_33 (by decide) (fun c_28 => ?_) (fun c_28 => ?_)
    · have hw := hwt c_28
      exact hK129 σ x1 x2 x3 x4 x5 x6 x7 _ _ _ hw h (lv_sub hl [0, 1, 2, 3, 4, 5, 6, 7] rfl)
    · have hw := hwf c_28
      refine lv_iload X.1 X.2.1 dX5_weighPeriod_36 (lv_at hl 6 rfl) ?_
      refine lv_iload X.1 X.2.1 dX5_weighPeriod_38 (lv_at hl 7 rfl) ?_
      refine lv_iload X.1 X.2.1 dX5_weighPeriod_40 (lv_at hl 8 rfl) ?_
      refine k_i h (r_S (As := [.int (iv x6), .int (iv x7), .int (iv x8)]) (rest := []) X h (c_X5_state l D ct ad L φ N0 σ x6 x7 x8 _ hw) rfl rfl ⟨Nat.le_of_ble_eq_true rfl, Nat.le_of_ble_eq_true rfl⟩ kw_1407 kw_1408 kw_127 kw_1409 pd_X5_state rfl hl.1 rfl (Nat.le_of_ble_eq_true rfl) ⟨Nat.le_of_ble_eq_true rfl, Nat.le_of_ble_eq_true rfl⟩ dX5_weighPeriod_42) (fun r_8 σ_7 H locs hw h => ?_)
      refine lv_istore (lv' := [(9, .int (iv r_8)), (0, .ref (ad 5 0)), (1, .int (iv x1)), (2, .int (iv x2)), (3, .int (iv x3)), (4, .int (iv x4)), (5, .int (iv x5)), (6, .int (iv x6)), (7, .int (iv x7)), (8, .int (iv x8))]) X.1 X.2.1 dX5_weighPeriod_45 hl (by decide) rfl (fun ls hl => ?_)
      refine lv_iload_n X.1 X.2.1 dX5_weighPeriod_47 rfl (lv_at hl 2 rfl) ?_
      refine j_bipush X dX5_weighPeriod_48 (by decide) ?_
      obtain ⟨g_9, hwt, hwf⟩ := hw
      refine j_cmp_ne (tgt := 85) X g_9 ⟨by decide, by decide⟩ dX5_weighPeriod_50 (by decide) (fun c_27 => ?_) (fun c_27 => ?_)
      · have hw := hwt c_27
        refine lv_aload_n X.1 X.2.1 dX5_weighPeriod_85 rfl (lv_at hl 1 rfl) ?_
        refine lv_iload_n X.1 X.2.1 dX5_weighPeriod_86 rfl (lv_at hl 2 rfl) ?_
        refine lv_iload X.1 X.2.1 dX5_weighPeriod_87 (lv_at hl 7 rfl) ?_
        refine lv_iload X.1 X.2.1 dX5_weighPeriod_89 (lv_at hl 8 rfl) ?_
        refine lv_iload X.1 X.2.1 dX5_weighPeriod_91 (lv_at hl 9 rfl) ?_
        refine k_i h (r_V (C := RX5) (ci := 5) (As := [.int (iv x1), .int (iv x6), .int (iv x7), .int (iv x8)]) (rest := []) X h (c_X5_canBe l D ct ad L φ N0 σ_7 x1 x6 x7 x8 _ hw) rfl rfl ⟨Nat.le_of_ble_eq_true rfl, Nat.le_of_ble_eq_true rfl⟩ kw_1410 kw_1412 kw_54 kw_127 kw_1413 ⟨rfl, pd_X5_canBe⟩ (hF.1 5 rfl).1 rfl rfl rfl hl.1 rfl (Nat.le_of_ble_eq_true rfl) ⟨Nat.le_of_ble_eq_true rfl, Nat.le_of_ble_eq_true rfl⟩ dX5_weighPeriod_93) (fun r_11 σ_10 H locs hw h => ?_)
        obtain ⟨g_12, hwt, hwf⟩ := hw
        refine j_if_eq (tgt := 123) X g_12 dX5_weighPeriod_96 (by decide) (fun c_21 => ?_) (fun c_21 => ?_)
        · have hw := hwt c_21
          exact lb_X5_weighPeriod_123 X ih hK129 σ_10 x1 x2 x3 x4 x5 x6 x7 x8 _ _ _ hw h (lv_sub hl [1, 2, 3, 4, 5, 6, 7, 8, 9] rfl)
        · have hw := hwf c_21
          refine lv_aload_n X.1 X.2.1 dX5_weighPeriod_99 rfl (lv_at hl 1 rfl) ?_
          refine r_getR (ci := 5) X inw_5 h (hF.1 5 rfl).1 rfl rfl 12 (by decide) kw_397 rfl ((hF.1 5 rfl).2 12) dX5_weighPeriod_100 ?_
          refine lv_iload_n X.1 X.2.1 dX5_weighPeriod_103 rfl (lv_at hl 2 rfl) ?_
          obtain ⟨g_13, g_14, hw⟩ := hw
          refine r_aaS (n := 9) X h (hF.1 52 rfl).1 rfl ((hF.1 52 rfl).2 _) (by decide) g_13 g_14 dX5_weighPeriod_104 ?_
          refine lv_iload X.1 X.2.1 dX5_weighPeriod_105 (lv_at hl 0 rfl) ?_
          refine lv_aload_n X.1 X.2.1 dX5_weighPeriod_107 rfl (lv_at hl 1 rfl) ?_
          refine lv_iload_n X.1 X.2.1 dX5_weighPeriod_108 rfl (lv_at hl 2 rfl) ?_
          refine lv_iload X.1 X.2.1 dX5_weighPeriod_109 (lv_at hl 7 rfl) ?_
          refine lv_iload X.1 X.2.1 dX5_weighPeriod_111 (lv_at hl 8 rfl) ?_
          refine lv_iload X.1 X.2.1 dX5_weighPeriod_113 (lv_at hl 9 rfl) ?_
          refine lv_iload_n X.1 X.2.1 dX5_weighPeriod_115 rfl (lv_at hl 3 rfl) ?_
          refine lv_iload_n X.1 X.2.1 dX5_weighPeriod_116 rfl (lv_at hl 4 rfl) ?_
          refine lv_iload X.1 X.2.1 dX5_weighPeriod_117 (lv_at hl 5 rfl) ?_
          refine k_i h (r_V (C := RX5) (ci := 5) (As := [.int (iv x1), .int (iv x6), .int (iv x7), .int (iv x8), .int (iv x2), .int (iv x3), .int (iv x4)]) (rest := [.int (iv r_8), .ref (ad 53 (Int.toNat x1))]) X h (c_X5_bestCut l D ct ad L φ N0 σ_10 x1 x6 x7 x8 x2 x3 x4 _ hw) rfl rfl ⟨Nat.le_of_ble_eq_true rfl, Nat.le_of_ble_eq_true rfl⟩ kw_1414 kw_1416 kw_55 kw_127 kw_1417 ⟨rfl, pd_X5_bestCut⟩ (hF.1 5 rfl).1 rfl rfl rfl hl.1 rfl (Nat.le_of_ble_eq_true rfl) ⟨Nat.le_of_ble_eq_true rfl, Nat.le_of_ble_eq_true rfl⟩ dX5_weighPeriod_119) (fun r_16 σ_15 H locs hw h => ?_)
          obtain ⟨g_17, g_18, g_19, hw⟩ := hw
          refine r_iast (n := 455) X h (hF.2.2.1 (Int.toNat x1) g_17) (fun _ => rfl) (by decide) g_18 g_19 rfl dX5_weighPeriod_122 (fun H locs h => ?_)
          obtain ⟨σ_20, eσ_20⟩ : ∃ z : St, z = st σ_15 53 (Int.toNat x1) (Int.toNat r_8) r_16 := ⟨_, rfl⟩
          rw [← eσ_20] at h
          have hw := hw σ_20 eσ_20
          exact lb_X5_weighPeriod_123 X ih hK129 σ_20 x1 x2 x3 x4 x5 x6 x7 x8 _ _ _ hw h (lv_sub hl [1, 2, 3, 4, 5, 6, 7, 8, 9] rfl)
      · have hw := hwf c_27
        refine lv_aload_n X.1 X.2.1 dX5_weighPeriod_53 rfl (lv_at hl 1 rfl) ?_
        refine r_getR (ci := 5) X inw_5 h (hF.1 5 rfl).1 rfl rfl 12 (by decide) kw_397 rfl ((hF.1 5 rfl).2 12) dX5_weighPeriod_54 ?_
        refine lv_iload_n X.1 X.2.1 dX5_weighPeriod_57 rfl (lv_at hl 2 rfl) ?_
        obtain ⟨g_22, g_23, hw⟩ := hw
        refine r_aaS (n := 9) X h (hF.1 52 rfl).1 rfl ((hF.1 52 rfl).2 _) (by decide) g_22 g_23 dX5_weighPeriod_58 ?_
        refine lv_iload X.1 X.2.1 dX5_weighPeriod_59 (lv_at hl 0 rfl) ?_
        refine lv_iload_n X.1 X.2.1 dX5_weighPeriod_61 rfl (lv_at hl 3 rfl) ?_
        refine lv_iload X.1 X.2.1 dX5_weighPeriod_62 (lv_at hl 7 rfl) ?_
        refine j_isub X dX5_weighPeriod_64 ?_
        refine lv_iload X.1 X.2.1 dX5_weighPeriod_65 (lv_at hl 8 rfl) ?_
        refine j_isub X dX5_weighPeriod_67 ?_
        refine lv_iload X.1 X.2.1 dX5_weighPeriod_68 (lv_at hl 9 rfl) ?_
        refine j_isub X dX5_weighPeriod_70 ?_
        refine lv_iload X.1 X.2.1 dX5_weighPeriod_71 (lv_at hl 6 rfl) ?_
        obtain ⟨g_24, g_25, hwt, hwf⟩ := hw
        refine j_cmp_lt (tgt := 80) X g_24 g_25 dX5_weighPeriod_73 (by decide) (fun c_26 => ?_) (fun c_26 => ?_)
        · have hw := hwt c_26
          refine j_iconst X dX5_weighPeriod_80 ?_
          exact lb_X5_weighPeriod_81 X ih hK129 σ_7 x1 x2 x3 x4 x5 x6 x7 x8 (-1) r_8 (Int.toNat x1) _ _ _ hw h (lv_sub hl [1, 2, 3, 4, 5, 6, 7, 8, 9] rfl)
        · have hw := hwf c_26
          refine j_iconst X dX5_weighPeriod_76 ?_
          refine lv_goto (tgt := 81) X.1 X.2.1 dX5_weighPeriod_77 (by decide) ?_
          exact lb_X5_weighPeriod_81 X ih hK129 σ_7 x1 x2 x3 x4 x5 x6 x7 x8 0 r_8 (Int.toNat x1) _ _ _ hw h (lv_sub hl [1, 2, 3, 4, 5, 6, 7, 8, 9] rfl)
set_option maxRecDepth 100000 in
set_option maxHeartbeats 4000000 in
theorem lb_X5_weighPeriod_12 (X : Cx p s m meth c args cX5_weighPeriod 10 none RX5 D ct L φ N0) {K135 : St → Int → Int → Int → Int → Int → Int → Prop} (hK135 : ∀ (σ : St) (x1 : Int) (x2 : Int) (x3 : Int) (x4 : Int) (x5 : Int) (x6 : Int) (H : Heap) (locs : List Loc) (ls : Array Slot), K135 σ x1 x2 x3 x4 x5 x6 → Hs D ct ad L φ N0 s.heap σ H locs → lv_has ls 10 [(0, .ref (ad 5 0)), (1, .int (iv x1)), (2, .int (iv x2)), (3, .int (iv x3)), (4, .int (iv x4)), (5, .int (iv x5)), (6, .int (iv x6))] → W p l e ({ frames := 2, cells := 0, slots := 0, locals := 57 } : Room) s m args below meth c H locs 0 0 (MQ below (Qv D ct ad L φ N0 Q) args s 0 0 (AA N0)) (F0 m 135 ls [])) : ∀ (n : Nat) (σ : St) (x1 : Int) (x2 : Int) (x3 : Int) (x4 : Int) (x5 : Int) (x6 : Int) (x7 : Int) (H : Heap) (locs : List Loc) (ls : Array Slot), wp_X5_weighPeriod_12 K135 Q n σ x1 x2 x3 x4 x5 x6 x7 → Hs D ct ad L φ N0 s.heap σ H locs → lv_has ls 10 [(0, .ref (ad 5 0)), (1, .int (iv x1)), (2, .int (iv x2)), (3, .int (iv x3)), (4, .int (iv x4)), (5, .int (iv x5)), (6, .int (iv x6)), (7, .int (iv x7))] → W p l e ({ frames := 2, cells := 0, slots := 0, locals := 57 } : Room) s m args below meth c H locs 0 0 (MQ below (Qv D ct ad L φ N0 Q) args s 0 0 (AA N0)) (F0 m 12 ls []) := by
  have hF := X.2.2.2.2.2.2.2.2.1
  intro n
  induction n with
  | zero => intro σ x1 x2 x3 x4 x5 x6 x7 H locs ls hw; exact hw.elim
  | succ n ih =>
    intro σ x1 x2 x3 x4 x5 x6 x7 H locs ls hw h hl
    unfold wp_X5_weighPeriod_12 at hw
    refine lv_iload X.1 X.2.1 dX5_weighPeriod_12 (lv_at hl 6 rfl) ?_
    refine lv_iload X.1 X.2.1 dX5_weighPeriod_14 (lv_at hl 7 rfl) ?_
    refine j_iadd X dX5_weighPeriod_16 ?_
    refine lv_iload_n X.1 X.2.1 dX5_weighPeriod_17 rfl (lv_at hl 2 rfl) ?_
    obtain ⟨g_29, g_30, hwt, hwf⟩ := hw
    refine j_cmp_gt (tgt := 135) X g_29 g_30 dX5_weighPeriod_18 (by decide) (fun c_31 => ?_) (fun c_31 => ?_)
    · have hw := hwt c_31
      exact hK135 σ x1 x2 x3 x4 x5 x6 _ _ _ hw h (lv_sub hl [0, 1, 2, 3, 4, 5, 6] rfl)
    · have hw := hwf c_31
      refine j_iconst X dX5_weighPeriod_21 ?_
      refine lv_istore (lv' := [(8, .int (iv 0)), (0, .ref (ad 5 0)), (1, .int (iv x1)), (2, .int (iv x2)), (3, .int (iv x3)), (4, .int (iv x4)), (5, .int (iv x5)), (6, .int (iv x6)), (7, .int (iv x7))]) X.1 X.2.1 dX5_weighPeriod_22 hl (by decide) rfl (fun ls hl => ?_)
      exact hw.elim (fun n24 hw => lb_X5_weighPeriod_24 X (lb_X5_weighPeriod_129 X ih hK135) n24 σ x1 x2 x3 x4 x5 x6 x7 0 _ _ _ hw h (lv_sub hl [1, 2, 3, 4, 5, 6, 7, 8, 0] rfl))
set_option maxRecDepth 100000 in
set_option maxHeartbeats 4000000 in
theorem lb_X5_weighPeriod_3 (X : Cx p s m meth c args cX5_weighPeriod 10 none RX5 D ct L φ N0) : ∀ (n : Nat) (σ : St) (x1 : Int) (x2 : Int) (x3 : Int) (x4 : Int) (x5 : Int) (x6 : Int) (H : Heap) (locs : List Loc) (ls : Array Slot), wp_X5_weighPeriod_3 Q n σ x1 x2 x3 x4 x5 x6 → Hs D ct ad L φ N0 s.heap σ H locs → lv_has ls 10 [(0, .ref (ad 5 0)), (1, .int (iv x1)), (2, .int (iv x2)), (3, .int (iv x3)), (4, .int (iv x4)), (5, .int (iv x5)), (6, .int (iv x6))] → W p l e ({ frames := 2, cells := 0, slots := 0, locals := 57 } : Room) s m args below meth c H locs 0 0 (MQ below (Qv D ct ad L φ N0 Q) args s 0 0 (AA N0)) (F0 m 3 ls []) := by
  have hF := X.2.2.2.2.2.2.2.2.1
  intro n
  induction n with
  | zero => intro σ x1 x2 x3 x4 x5 x6 H locs ls hw; exact hw.elim
  | succ n ih =>
    intro σ x1 x2 x3 x4 x5 x6 H locs ls hw h hl
    unfold wp_X5_weighPeriod_3 at hw
    refine lv_iload X.1 X.2.1 dX5_weighPeriod_3 (lv_at hl 6 rfl) ?_
    refine lv_iload_n X.1 X.2.1 dX5_weighPeriod_5 rfl (lv_at hl 2 rfl) ?_
    obtain ⟨g_32, g_33, hwt, hwf⟩ := hw
    refine j_cmp_gt (tgt := 141) X g_32 g_33 dX5_weighPeriod_6 (by decide) (fun c_34 => ?_) (fun c_34 => ?_)
    · have hw := hwt c_34
      exact k_vr X h hw dX5_weighPeriod_141
    · have hw := hwf c_34
      refine j_iconst X dX5_weighPeriod_9 ?_
      refine lv_istore (lv' := [(7, .int (iv 0)), (0, .ref (ad 5 0)), (1, .int (iv x1)), (2, .int (iv x2)), (3, .int (iv x3)), (4, .int (iv x4)), (5, .int (iv x5)), (6, .int (iv x6))]) X.1 X.2.1 dX5_weighPeriod_10 hl (by decide) rfl (fun ls hl => ?_)
      exact hw.elim (fun n12 hw => lb_X5_weighPeriod_12 X (lb_X5_weighPeriod_135 X ih) n12 σ x1 x2 x3 x4 x5 x6 0 _ _ _ hw h (lv_sub hl [1, 2, 3, 4, 5, 6, 7, 0] rfl))
theorem pd_X5_weighPeriod : yX5_weighPeriod.cls ≠ "java/lang/invoke/MethodHandle" ∧ yX5_weighPeriod.cls ≠ "java/lang/invoke/VarHandle" ∧ (parseMethodDescriptor yX5_weighPeriod.desc).map (fun d => d.parameters.length) = some 5 := by decide +kernel
set_option maxRecDepth 100000 in
set_option maxHeartbeats 4000000 in
theorem c_X5_weighPeriod (l : Launch) (D : va_G) (ct : Nat → ClassId) (ad : Nat → Nat → Nat) (L : List (Nat × Nat)) (φ : Nat → Nat → Nat → Bool) (N0 : Nat) (σ : St) (x1 : Int) (x2 : Int) (x3 : Int) (x4 : Int) (x5 : Int) (Q : St → Prop) (hw : wp_X5_weighPeriod σ x1 x2 x3 x4 x5 Q) : Met l yX5_weighPeriod (.code yX5_weighPeriod cX5_weighPeriod 10 none :: gw) ({ frames := 2, cells := 0, slots := 0, locals := 57 } : Room) (Pm D ct ad L φ N0 σ [.ref (ad 5 0), .int (iv x1), .int (iv x2), .int (iv x3), .int (iv x4), .int (iv x5)]) (Qv D ct ad L φ N0 Q) 0 0 (AA N0) := by
  refine m_of (by decide) (fun p e s m below meth c X hnm h => ?_)
  have hF := X.2.2.2.2.2.2.2.2.1
  have hl := lv_entry ([.ref (ad 5 0), .int (iv x1), .int (iv x2), .int (iv x3), .int (iv x4), .int (iv x5)]) (n := 10) (Nat.le_of_ble_eq_true rfl)
  rw [lg_entry_eq]
  generalize (lg_sl ([.ref (ad 5 0), .int (iv x1), .int (iv x2), .int (iv x3), .int (iv x4), .int (iv x5)]) ++ List.replicate (10 - (lg_sl ([.ref (ad 5 0), .int (iv x1), .int (iv x2), .int (iv x3), .int (iv x4), .int (iv x5)])).length) Slot.unset).toArray = ls at hl ⊢
  have hl : lv_has ls 10 [(0, .ref (ad 5 0)), (1, .int (iv x1)), (2, .int (iv x2)), (3, .int (iv x3)), (4, .int (iv x4)), (5, .int (iv x5))] := hl
  have h : Hs D ct ad L φ N0 s.heap σ s.heap [] := h
  unfold wp_X5_weighPeriod at hw
  refine j_iconst X dX5_weighPeriod_0 ?_
  refine lv_istore (lv' := [(6, .int (iv 0)), (0, .ref (ad 5 0)), (1, .int (iv x1)), (2, .int (iv x2)), (3, .int (iv x3)), (4, .int (iv x4)), (5, .int (iv x5))]) X.1 X.2.1 dX5_weighPeriod_1 hl (by decide) rfl (fun ls hl => ?_)
  exact hw.elim (fun n3 hw => lb_X5_weighPeriod_3 X n3 σ x1 x2 x3 x4 x5 0 _ _ _ hw h (lv_sub hl [1, 2, 3, 4, 5, 6, 0] rfl))
end
section
variable {p : Program} {l : Launch} {e : Env} {s : State} {m : MethodId} {args : Array Value} {below : List Frame} {meth : Method} {c : Code} {D : va_G} {ct : Nat → ClassId} {ad : Nat → Nat → Nat} {L : List (Nat × Nat)} {φ : Nat → Nat → Nat → Bool} {N0 : Nat}
variable {Q : St → Prop}
set_option maxRecDepth 100000 in
set_option maxHeartbeats 4000000 in
theorem lb_X5_keepCuts_103 (X : Cx p s m meth c args cX5_keepCuts 8 none RX5 D ct L φ N0) (σ : St) (H : Heap) (locs : List Loc) (ls : Array Slot) (hw : wp_X5_keepCuts_103 Q σ) (h : Hs D ct ad L φ N0 s.heap σ H locs) (hl : lv_has ls 8 [(0, .ref (ad 5 0))]) : W p l e ({ frames := 2, cells := 0, slots := 0, locals := 57 } : Room) s m args below meth c H locs 0 0 (MQ below (Qv D ct ad L φ N0 Q) args s 0 0 (AA N0)) (F0 m 103 ls []) := by
  have hF := X.2.2.2.2.2.2.2.2.1
  unfold wp_X5_keepCuts_103 at hw
  refine lv_aload_n X.1 X.2.1 dX5_keepCuts_103 rfl (lv_at hl 0 rfl) ?_
  refine j_iconst X dX5_keepCuts_104 ?_
  refine r_put (ci := 5) X inw_5 tyX5 tyX5_ok nmX5 h (hF.1 5 rfl).1 rfl rfl 16 (by decide) kw_402 rfl rfl rfl (Nat.le_of_ble_eq_true rfl) rfl rfl dX5_keepCuts_105 (fun H locs h => ?_)
  obtain ⟨σ_1, eσ_1⟩ : ∃ z : St, z = st σ 5 0 16 1 := ⟨_, rfl⟩
  rw [← eσ_1] at h
  have hw := hw σ_1 eσ_1
  exact k_vr X h hw dX5_keepCuts_108
set_option maxRecDepth 100000 in
set_option maxHeartbeats 4000000 in
theorem lb_X5_keepCuts_27 (X : Cx p s m meth c args cX5_keepCuts 8 none RX5 D ct L φ N0) {K103 : St → Prop} (hK103 : ∀ (σ : St) (H : Heap) (locs : List Loc) (ls : Array Slot), K103 σ → Hs D ct ad L φ N0 s.heap σ H locs → lv_has ls 8 [(0, .ref (ad 5 0))] → W p l e ({ frames := 2, cells := 0, slots := 0, locals := 57 } : Room) s m args below meth c H locs 0 0 (MQ below (Qv D ct ad L φ N0 Q) args s 0 0 (AA N0)) (F0 m 103 ls [])) : ∀ (n : Nat) (σ : St) (x1 : Int) (x2 : Int) (x3 : Int) (x4 : Int) (x5 : Int) (x6 : Int) (x7 : Int) (H : Heap) (locs : List Loc) (ls : Array Slot), wp_X5_keepCuts_27 K103 Q n σ x1 x2 x3 x4 x5 x6 x7 → Hs D ct ad L φ N0 s.heap σ H locs → lv_has ls 8 [(0, .ref (ad 5 0)), (1, .int (iv x1)), (2, .int (iv x2)), (3, .int (iv x3)), (4, .int (iv x4)), (5, .int (iv x5)), (6, .int (iv x6)), (7, .int (iv x7))] → W p l e ({ frames := 2, cells := 0, slots := 0, locals := 57 } : Room) s m args below meth c H locs 0 0 (MQ below (Qv D ct ad L φ N0 Q) args s 0 0 (AA N0)) (F0 m 27 ls []) := by
  have hF := X.2.2.2.2.2.2.2.2.1
  intro n
  induction n with
  | zero => intro σ x1 x2 x3 x4 x5 x6 x7 H locs ls hw; exact hw.elim
  | succ n ih =>
    intro σ x1 x2 x3 x4 x5 x6 x7 H locs ls hw h hl
    unfold wp_X5_keepCuts_27 at hw
    refine lv_iload X.1 X.2.1 dX5_keepCuts_27 (lv_at hl 7 rfl) ?_
    refine j_bipush X dX5_keepCuts_29 (by decide) ?_
    obtain ⟨g_2, hwt, hwf⟩ := hw
    refine j_cmp_ge (tgt := 103) X g_2 ⟨by decide, by decide⟩ dX5_keepCuts_31 (by decide) (fun c_12 => ?_) (fun c_12 => ?_)
    · have hw := hwt c_12
      exact hK103 σ _ _ _ hw h (lv_sub hl [0] rfl)
    · have hw := hwf c_12
      refine lv_aload_n X.1 X.2.1 dX5_keepCuts_34 rfl (lv_at hl 0 rfl) ?_
      refine lv_iload X.1 X.2.1 dX5_keepCuts_35 (lv_at hl 7 rfl) ?_
      refine lv_iload X.1 X.2.1 dX5_keepCuts_37 (lv_at hl 4 rfl) ?_
      refine lv_iload X.1 X.2.1 dX5_keepCuts_39 (lv_at hl 5 rfl) ?_
      refine lv_iload X.1 X.2.1 dX5_keepCuts_41 (lv_at hl 6 rfl) ?_
      refine lv_iload_n X.1 X.2.1 dX5_keepCuts_43 rfl (lv_at hl 1 rfl) ?_
      refine lv_iload_n X.1 X.2.1 dX5_keepCuts_44 rfl (lv_at hl 2 rfl) ?_
      refine lv_iload_n X.1 X.2.1 dX5_keepCuts_45 rfl (lv_at hl 3 rfl) ?_
      refine k_i h (r_V (C := RX5) (ci := 5) (As := [.int (iv x7), .int (iv x4), .int (iv x5), .int (iv x6), .int (iv x1), .int (iv x2), .int (iv x3)]) (rest := []) X h (c_X5_bestCut l D ct ad L φ N0 σ x7 x4 x5 x6 x1 x2 x3 _ hw) rfl rfl ⟨Nat.le_of_ble_eq_true rfl, Nat.le_of_ble_eq_true rfl⟩ kw_1414 kw_1416 kw_55 kw_127 kw_1417 ⟨rfl, pd_X5_bestCut⟩ (hF.1 5 rfl).1 rfl rfl rfl hl.1 rfl (Nat.le_of_ble_eq_true rfl) ⟨Nat.le_of_ble_eq_true rfl, Nat.le_of_ble_eq_true rfl⟩ dX5_keepCuts_46) (fun r_4 σ_3 H locs hw h => ?_)
      refine lv_pop X.1 X.2.1 dX5_keepCuts_49 rfl ?_
      refine lv_aload_n X.1 X.2.1 dX5_keepCuts_50 rfl (lv_at hl 0 rfl) ?_
      refine r_getR (ci := 5) X inw_5 h (hF.1 5 rfl).1 rfl rfl 15 (by decide) kw_400 rfl ((hF.1 5 rfl).2 15) dX5_keepCuts_51 ?_
      refine j_iconst X dX5_keepCuts_54 ?_
      refine lv_iload X.1 X.2.1 dX5_keepCuts_55 (lv_at hl 7 rfl) ?_
      refine j_imul X dX5_keepCuts_57 ?_
      refine lv_aload_n X.1 X.2.1 dX5_keepCuts_58 rfl (lv_at hl 0 rfl) ?_
      refine r_get (ci := 5) X inw_5 h (hF.1 5 rfl).1 rfl rfl 13 (by decide) kw_398 rfl dX5_keepCuts_59 ?_
      obtain ⟨g_5, g_6, hw⟩ := hw
      refine r_iast (n := 16) X h (hF.1 54 rfl).1 (fun _ => rfl) (by decide) g_5 g_6 rfl dX5_keepCuts_62 (fun H locs h => ?_)
      obtain ⟨σ_7, eσ_7⟩ : ∃ z : St, z = st σ_3 54 0 (Int.toNat (2 * x7)) (σ_3 5 0 13) := ⟨_, rfl⟩
      rw [← eσ_7] at h
      have hw := hw σ_7 eσ_7
      refine lv_aload_n X.1 X.2.1 dX5_keepCuts_63 rfl (lv_at hl 0 rfl) ?_
      refine r_getR (ci := 5) X inw_5 h (hF.1 5 rfl).1 rfl rfl 15 (by decide) kw_400 rfl ((hF.1 5 rfl).2 15) dX5_keepCuts_64 ?_
      refine j_iconst X dX5_keepCuts_67 ?_
      refine lv_iload X.1 X.2.1 dX5_keepCuts_68 (lv_at hl 7 rfl) ?_
      refine j_imul X dX5_keepCuts_70 ?_
      refine j_iconst X dX5_keepCuts_71 ?_
      refine j_iadd X dX5_keepCuts_72 ?_
      refine lv_aload_n X.1 X.2.1 dX5_keepCuts_73 rfl (lv_at hl 0 rfl) ?_
      refine r_get (ci := 5) X inw_5 h (hF.1 5 rfl).1 rfl rfl 14 (by decide) kw_399 rfl dX5_keepCuts_74 ?_
      obtain ⟨g_8, g_9, hw⟩ := hw
      refine r_iast (n := 16) X h (hF.1 54 rfl).1 (fun _ => rfl) (by decide) g_8 g_9 rfl dX5_keepCuts_77 (fun H locs h => ?_)
      obtain ⟨σ_10, eσ_10⟩ : ∃ z : St, z = st σ_7 54 0 (Int.toNat ((2 * x7) + 1)) (σ_7 5 0 14) := ⟨_, rfl⟩
      rw [← eσ_10] at h
      have hw := hw σ_10 eσ_10
      refine lv_iload X.1 X.2.1 dX5_keepCuts_78 (lv_at hl 5 rfl) ?_
      refine lv_istore (lv' := [(6, .int (iv x5)), (0, .ref (ad 5 0)), (1, .int (iv x1)), (2, .int (iv x2)), (3, .int (iv x3)), (4, .int (iv x4)), (5, .int (iv x5)), (7, .int (iv x7))]) X.1 X.2.1 dX5_keepCuts_80 hl (by decide) rfl (fun ls hl => ?_)
      refine lv_iload X.1 X.2.1 dX5_keepCuts_82 (lv_at hl 5 rfl) ?_
      refine lv_istore (lv' := [(5, .int (iv x4)), (6, .int (iv x5)), (0, .ref (ad 5 0)), (1, .int (iv x1)), (2, .int (iv x2)), (3, .int (iv x3)), (4, .int (iv x4)), (7, .int (iv x7))]) X.1 X.2.1 dX5_keepCuts_84 hl (by decide) rfl (fun ls hl => ?_)
      refine lv_aload_n X.1 X.2.1 dX5_keepCuts_86 rfl (lv_at hl 2 rfl) ?_
      refine r_get (ci := 5) X inw_5 h (hF.1 5 rfl).1 rfl rfl 13 (by decide) kw_398 rfl dX5_keepCuts_87 ?_
      refine lv_aload_n X.1 X.2.1 dX5_keepCuts_90 rfl (lv_at hl 2 rfl) ?_
      refine r_get (ci := 5) X inw_5 h (hF.1 5 rfl).1 rfl rfl 14 (by decide) kw_399 rfl dX5_keepCuts_91 ?_
      refine j_iadd X dX5_keepCuts_94 ?_
      refine j_bind (fun v_11 ev_11 => ?_)
      have hw := hw v_11 ev_11
      refine lv_istore (lv' := [(4, .int (iv v_11)), (5, .int (iv x4)), (6, .int (iv x5)), (0, .ref (ad 5 0)), (1, .int (iv x1)), (2, .int (iv x2)), (3, .int (iv x3)), (7, .int (iv x7))]) X.1 X.2.1 dX5_keepCuts_95 hl (by decide) rfl (fun ls hl => ?_)
      refine j_iinc (kk9 := 7) (lv' := [(7, .int (iv (x7 + 1))), (4, .int (iv v_11)), (5, .int (iv x4)), (6, .int (iv x5)), (0, .ref (ad 5 0)), (1, .int (iv x1)), (2, .int (iv x2)), (3, .int (iv x3))]) X dX5_keepCuts_97 hl rfl (by decide) rfl (fun ls hl => ?_)
      refine lv_goto (tgt := 27) X.1 X.2.1 dX5_keepCuts_100 (by decide) ?_
      exact ih σ_10 x1 x2 x3 v_11 x4 x5 (x7 + 1) _ _ _ hw h (lv_sub hl [4, 5, 6, 7, 1, 2, 3, 0] rfl)
theorem pd_X5_keepCuts : yX5_keepCuts.cls ≠ "java/lang/invoke/MethodHandle" ∧ yX5_keepCuts.cls ≠ "java/lang/invoke/VarHandle" ∧ (parseMethodDescriptor yX5_keepCuts.desc).map (fun d => d.parameters.length) = some 3 := by decide +kernel
set_option maxRecDepth 100000 in
set_option maxHeartbeats 4000000 in
theorem c_X5_keepCuts (l : Launch) (D : va_G) (ct : Nat → ClassId) (ad : Nat → Nat → Nat) (L : List (Nat × Nat)) (φ : Nat → Nat → Nat → Bool) (N0 : Nat) (σ : St) (x1 : Int) (x2 : Int) (x3 : Int) (Q : St → Prop) (hw : wp_X5_keepCuts σ x1 x2 x3 Q) : Met l yX5_keepCuts (.code yX5_keepCuts cX5_keepCuts 8 none :: gw) ({ frames := 2, cells := 0, slots := 0, locals := 57 } : Room) (Pm D ct ad L φ N0 σ [.ref (ad 5 0), .int (iv x1), .int (iv x2), .int (iv x3)]) (Qv D ct ad L φ N0 Q) 0 0 (AA N0) := by
  refine m_of (by decide) (fun p e s m below meth c X hnm h => ?_)
  have hF := X.2.2.2.2.2.2.2.2.1
  have hl := lv_entry ([.ref (ad 5 0), .int (iv x1), .int (iv x2), .int (iv x3)]) (n := 8) (Nat.le_of_ble_eq_true rfl)
  rw [lg_entry_eq]
  generalize (lg_sl ([.ref (ad 5 0), .int (iv x1), .int (iv x2), .int (iv x3)]) ++ List.replicate (8 - (lg_sl ([.ref (ad 5 0), .int (iv x1), .int (iv x2), .int (iv x3)])).length) Slot.unset).toArray = ls at hl ⊢
  have hl : lv_has ls 8 [(0, .ref (ad 5 0)), (1, .int (iv x1)), (2, .int (iv x2)), (3, .int (iv x3))] := hl
  have h : Hs D ct ad L φ N0 s.heap σ s.heap [] := h
  unfold wp_X5_keepCuts at hw
  refine lv_aload_n X.1 X.2.1 dX5_keepCuts_0 rfl (lv_at hl 0 rfl) ?_
  refine r_getR (ci := 5) X inw_5 h (hF.1 5 rfl).1 rfl rfl 11 (by decide) kw_396 rfl ((hF.1 5 rfl).2 11) dX5_keepCuts_1 ?_
  refine j_iconst X dX5_keepCuts_4 ?_
  refine r_iald (n := 4) X h (hF.1 51 rfl).1 rfl (by decide) (by decide) (by decide) dX5_keepCuts_5 ?_
  refine j_bind (fun v_13 ev_13 => ?_)
  have hw := hw v_13 ev_13
  refine lv_istore (lv' := [(4, .int (iv v_13)), (0, .ref (ad 5 0)), (1, .int (iv x1)), (2, .int (iv x2)), (3, .int (iv x3))]) X.1 X.2.1 dX5_keepCuts_6 hl (by decide) rfl (fun ls hl => ?_)
  refine lv_aload_n X.1 X.2.1 dX5_keepCuts_8 rfl (lv_at hl 1 rfl) ?_
  refine r_getR (ci := 5) X inw_5 h (hF.1 5 rfl).1 rfl rfl 11 (by decide) kw_396 rfl ((hF.1 5 rfl).2 11) dX5_keepCuts_9 ?_
  refine j_iconst X dX5_keepCuts_12 ?_
  refine r_iald (n := 4) X h (hF.1 51 rfl).1 rfl (by decide) (by decide) (by decide) dX5_keepCuts_13 ?_
  refine j_bind (fun v_14 ev_14 => ?_)
  have hw := hw v_14 ev_14
  refine lv_istore (lv' := [(5, .int (iv v_14)), (4, .int (iv v_13)), (0, .ref (ad 5 0)), (1, .int (iv x1)), (2, .int (iv x2)), (3, .int (iv x3))]) X.1 X.2.1 dX5_keepCuts_14 hl (by decide) rfl (fun ls hl => ?_)
  refine lv_aload_n X.1 X.2.1 dX5_keepCuts_16 rfl (lv_at hl 2 rfl) ?_
  refine r_getR (ci := 5) X inw_5 h (hF.1 5 rfl).1 rfl rfl 11 (by decide) kw_396 rfl ((hF.1 5 rfl).2 11) dX5_keepCuts_17 ?_
  refine j_iconst X dX5_keepCuts_20 ?_
  refine r_iald (n := 4) X h (hF.1 51 rfl).1 rfl (by decide) (by decide) (by decide) dX5_keepCuts_21 ?_
  refine j_bind (fun v_15 ev_15 => ?_)
  have hw := hw v_15 ev_15
  refine lv_istore (lv' := [(6, .int (iv v_15)), (5, .int (iv v_14)), (4, .int (iv v_13)), (0, .ref (ad 5 0)), (1, .int (iv x1)), (2, .int (iv x2)), (3, .int (iv x3))]) X.1 X.2.1 dX5_keepCuts_22 hl (by decide) rfl (fun ls hl => ?_)
  refine j_iconst X dX5_keepCuts_24 ?_
  refine lv_istore (lv' := [(7, .int (iv 0)), (6, .int (iv v_15)), (5, .int (iv v_14)), (4, .int (iv v_13)), (0, .ref (ad 5 0)), (1, .int (iv x1)), (2, .int (iv x2)), (3, .int (iv x3))]) X.1 X.2.1 dX5_keepCuts_25 hl (by decide) rfl (fun ls hl => ?_)
  exact hw.elim (fun n27 hw => lb_X5_keepCuts_27 X (lb_X5_keepCuts_103 X) n27 σ x1 x2 x3 v_13 v_14 v_15 0 _ _ _ hw h (lv_sub hl [4, 5, 6, 7, 3, 2, 1, 0] rfl))
end
section
variable {p : Program} {l : Launch} {e : Env} {s : State} {m : MethodId} {args : Array Value} {below : List Frame} {meth : Method} {c : Code} {D : va_G} {ct : Nat → ClassId} {ad : Nat → Nat → Nat} {L : List (Nat × Nat)} {φ : Nat → Nat → Nat → Bool} {N0 : Nat}
variable {Q : Int → St → Prop}
set_option maxRecDepth 100000 in
set_option maxHeartbeats 4000000 in
theorem lb_X5_planCuts_55 (X : Cx p s m meth c args cX5_planCuts 6 (some .int) RX5 D ct L φ N0) (σ : St) (x1 : Int) (x2 : Int) (x4 : Int) (H : Heap) (locs : List Loc) (ls : Array Slot) (hw : wp_X5_planCuts_55 Q σ x1 x2 x4) (h : Hs D ct ad L φ N0 s.heap σ H locs) (hl : lv_has ls 6 [(0, .ref (ad 5 0)), (1, .int (iv x1)), (2, .int (iv x2)), (4, .int (iv x4))]) : W p l e ({ frames := 3, cells := 0, slots := 0, locals := 86 } : Room) s m args below meth c H locs 0 0 (MQ below (Qi D ct ad L φ N0 Q) args s 0 0 (AA N0)) (F0 m 55 ls []) := by
  have hF := X.2.2.2.2.2.2.2.2.1
  unfold wp_X5_planCuts_55 at hw
  refine lv_aload_n X.1 X.2.1 dX5_planCuts_55 rfl (lv_at hl 0 rfl) ?_
  refine r_getR (ci := 5) X inw_5 h (hF.1 5 rfl).1 rfl rfl 12 (by decide) kw_397 rfl ((hF.1 5 rfl).2 12) dX5_planCuts_56 ?_
  refine j_iconst X dX5_planCuts_59 ?_
  refine r_aaS (n := 9) X h (hF.1 52 rfl).1 rfl ((hF.1 52 rfl).2 _) (by decide) (by decide) (by decide) dX5_planCuts_60 ?_
  refine lv_aload_n X.1 X.2.1 dX5_planCuts_61 rfl (lv_at hl 0 rfl) ?_
  refine r_getR (ci := 5) X inw_5 h (hF.1 5 rfl).1 rfl rfl 11 (by decide) kw_396 rfl ((hF.1 5 rfl).2 11) dX5_planCuts_62 ?_
  refine j_iconst X dX5_planCuts_65 ?_
  refine r_iald (n := 4) X h (hF.1 51 rfl).1 rfl (by decide) (by decide) (by decide) dX5_planCuts_66 ?_
  refine lv_aload_n X.1 X.2.1 dX5_planCuts_67 rfl (lv_at hl 0 rfl) ?_
  refine r_getR (ci := 5) X inw_5 h (hF.1 5 rfl).1 rfl rfl 11 (by decide) kw_396 rfl ((hF.1 5 rfl).2 11) dX5_planCuts_68 ?_
  refine j_iconst X dX5_planCuts_71 ?_
  refine r_iald (n := 4) X h (hF.1 51 rfl).1 rfl (by decide) (by decide) (by decide) dX5_planCuts_72 ?_
  refine lv_aload_n X.1 X.2.1 dX5_planCuts_73 rfl (lv_at hl 0 rfl) ?_
  refine r_getR (ci := 5) X inw_5 h (hF.1 5 rfl).1 rfl rfl 11 (by decide) kw_396 rfl ((hF.1 5 rfl).2 11) dX5_planCuts_74 ?_
  refine j_iconst X dX5_planCuts_77 ?_
  refine r_iald (n := 4) X h (hF.1 51 rfl).1 rfl (by decide) (by decide) (by decide) dX5_planCuts_78 ?_
  refine k_i h (r_S (As := [.int (iv (σ 51 0 (Int.toNat 0))), .int (iv (σ 51 0 (Int.toNat 1))), .int (iv (σ 51 0 (Int.toNat 2)))]) (rest := [.ref (ad 53 (Int.toNat 0))]) X h (c_X5_state l D ct ad L φ N0 σ (σ 51 0 (Int.toNat 0)) (σ 51 0 (Int.toNat 1)) (σ 51 0 (Int.toNat 2)) _ hw) rfl rfl ⟨Nat.le_of_ble_eq_true rfl, Nat.le_of_ble_eq_true rfl⟩ kw_1407 kw_1408 kw_127 kw_1409 pd_X5_state rfl hl.1 rfl (Nat.le_of_ble_eq_true rfl) ⟨Nat.le_of_ble_eq_true rfl, Nat.le_of_ble_eq_true rfl⟩ dX5_planCuts_79) (fun r_4 σ_3 H locs hw h => ?_)
  obtain ⟨g_5, g_6, g_7, hw⟩ := hw
  refine r_iald (n := 455) X h (hF.2.2.1 (Int.toNat 0) g_5) rfl (by decide) g_6 g_7 dX5_planCuts_82 ?_
  refine j_bind (fun v_8 ev_8 => ?_)
  have hw := hw v_8 ev_8
  refine lv_istore (lv' := [(5, .int (iv v_8)), (0, .ref (ad 5 0)), (1, .int (iv x1)), (2, .int (iv x2)), (4, .int (iv x4))]) X.1 X.2.1 dX5_planCuts_83 hl (by decide) rfl (fun ls hl => ?_)
  refine lv_iload X.1 X.2.1 dX5_planCuts_85 (lv_at hl 0 rfl) ?_
  refine j_iconst X dX5_planCuts_87 ?_
  obtain ⟨g_9, hwt, hwf⟩ := hw
  refine j_cmp_ne (tgt := 94) X g_9 ⟨by decide, by decide⟩ dX5_planCuts_88 (by decide) (fun c_11 => ?_) (fun c_11 => ?_)
  · have hw := hwt c_11
    refine lv_aload_n X.1 X.2.1 dX5_planCuts_94 rfl (lv_at hl 1 rfl) ?_
    refine lv_iload X.1 X.2.1 dX5_planCuts_95 (lv_at hl 4 rfl) ?_
    refine lv_iload_n X.1 X.2.1 dX5_planCuts_97 rfl (lv_at hl 2 rfl) ?_
    refine lv_iload_n X.1 X.2.1 dX5_planCuts_98 rfl (lv_at hl 3 rfl) ?_
    refine k_v h (r_V (C := RX5) (ci := 5) (As := [.int (iv x4), .int (iv x1), .int (iv x2)]) (rest := []) X h (c_X5_keepCuts l D ct ad L φ N0 σ_3 x4 x1 x2 _ hw) rfl rfl ⟨Nat.le_of_ble_eq_true rfl, Nat.le_of_ble_eq_true rfl⟩ kw_1419 kw_1421 kw_56 kw_127 kw_1422 ⟨rfl, pd_X5_keepCuts⟩ (hF.1 5 rfl).1 rfl rfl rfl hl.1 rfl (Nat.le_of_ble_eq_true rfl) ⟨Nat.le_of_ble_eq_true rfl, Nat.le_of_ble_eq_true rfl⟩ dX5_planCuts_99) (fun σ_10 H locs hw h => ?_)
    refine lv_iload X.1 X.2.1 dX5_planCuts_102 (lv_at hl 0 rfl) ?_
    exact k_ir X rfl h hw dX5_planCuts_104
  · have hw := hwf c_11
    refine j_bipush X dX5_planCuts_91 (by decide) ?_
    exact k_ir X rfl h hw dX5_planCuts_93
set_option maxRecDepth 100000 in
set_option maxHeartbeats 4000000 in
theorem lb_X5_planCuts_33 (X : Cx p s m meth c args cX5_planCuts 6 (some .int) RX5 D ct L φ N0) {K55 : St → Int → Int → Int → Prop} (hK55 : ∀ (σ : St) (x1 : Int) (x2 : Int) (x4 : Int) (H : Heap) (locs : List Loc) (ls : Array Slot), K55 σ x1 x2 x4 → Hs D ct ad L φ N0 s.heap σ H locs → lv_has ls 6 [(0, .ref (ad 5 0)), (1, .int (iv x1)), (2, .int (iv x2)), (4, .int (iv x4))] → W p l e ({ frames := 3, cells := 0, slots := 0, locals := 86 } : Room) s m args below meth c H locs 0 0 (MQ below (Qi D ct ad L φ N0 Q) args s 0 0 (AA N0)) (F0 m 55 ls [])) : ∀ (n : Nat) (σ : St) (x1 : Int) (x2 : Int) (x3 : Int) (x4 : Int) (x5 : Int) (H : Heap) (locs : List Loc) (ls : Array Slot), wp_X5_planCuts_33 K55 Q n σ x1 x2 x3 x4 x5 → Hs D ct ad L φ N0 s.heap σ H locs → lv_has ls 6 [(0, .ref (ad 5 0)), (1, .int (iv x1)), (2, .int (iv x2)), (3, .int (iv x3)), (4, .int (iv x4)), (5, .int (iv x5))] → W p l e ({ frames := 3, cells := 0, slots := 0, locals := 86 } : Room) s m args below meth c H locs 0 0 (MQ below (Qi D ct ad L φ N0 Q) args s 0 0 (AA N0)) (F0 m 33 ls []) := by
  have hF := X.2.2.2.2.2.2.2.2.1
  intro n
  induction n with
  | zero => intro σ x1 x2 x3 x4 x5 H locs ls hw; exact hw.elim
  | succ n ih =>
    intro σ x1 x2 x3 x4 x5 H locs ls hw h hl
    unfold wp_X5_planCuts_33 at hw
    refine lv_iload X.1 X.2.1 dX5_planCuts_33 (lv_at hl 5 rfl) ?_
    obtain ⟨g_12, hwt, hwf⟩ := hw
    refine j_if_lt (tgt := 55) X g_12 dX5_planCuts_35 (by decide) (fun c_14 => ?_) (fun c_14 => ?_)
    · have hw := hwt c_14
      exact hK55 σ x1 x2 x4 _ _ _ hw h (lv_sub hl [0, 1, 2, 4] rfl)
    · have hw := hwf c_14
      refine lv_aload_n X.1 X.2.1 dX5_planCuts_38 rfl (lv_at hl 0 rfl) ?_
      refine lv_iload X.1 X.2.1 dX5_planCuts_39 (lv_at hl 5 rfl) ?_
      refine lv_iload X.1 X.2.1 dX5_planCuts_41 (lv_at hl 4 rfl) ?_
      refine lv_iload_n X.1 X.2.1 dX5_planCuts_43 rfl (lv_at hl 1 rfl) ?_
      refine lv_iload_n X.1 X.2.1 dX5_planCuts_44 rfl (lv_at hl 2 rfl) ?_
      refine lv_iload_n X.1 X.2.1 dX5_planCuts_45 rfl (lv_at hl 3 rfl) ?_
      refine k_v h (r_V (C := RX5) (ci := 5) (As := [.int (iv x5), .int (iv x4), .int (iv x1), .int (iv x2), .int (iv x3)]) (rest := []) X h (c_X5_weighPeriod l D ct ad L φ N0 σ x5 x4 x1 x2 x3 _ hw) rfl rfl ⟨Nat.le_of_ble_eq_true rfl, Nat.le_of_ble_eq_true rfl⟩ kw_1403 kw_1405 kw_53 kw_127 kw_1406 ⟨rfl, pd_X5_weighPeriod⟩ (hF.1 5 rfl).1 rfl rfl rfl hl.1 rfl (Nat.le_of_ble_eq_true rfl) ⟨Nat.le_of_ble_eq_true rfl, Nat.le_of_ble_eq_true rfl⟩ dX5_planCuts_46) (fun σ_13 H locs hw h => ?_)
      refine j_iinc (kk9 := 5) (lv' := [(5, .int (iv (x5 + (-1)))), (0, .ref (ad 5 0)), (1, .int (iv x1)), (2, .int (iv x2)), (3, .int (iv x3)), (4, .int (iv x4))]) X dX5_planCuts_49 hl rfl (by decide) rfl (fun ls hl => ?_)
      refine lv_goto (tgt := 33) X.1 X.2.1 dX5_planCuts_52 (by decide) ?_
      exact ih σ_13 x1 x2 x3 x4 (x5 + (-1)) _ _ _ hw h (lv_sub hl [1, 2, 3, 4, 5, 0] rfl)
theorem pd_X5_planCuts : yX5_planCuts.cls ≠ "java/lang/invoke/MethodHandle" ∧ yX5_planCuts.cls ≠ "java/lang/invoke/VarHandle" ∧ (parseMethodDescriptor yX5_planCuts.desc).map (fun d => d.parameters.length) = some 3 := by decide +kernel
set_option maxRecDepth 100000 in
set_option maxHeartbeats 4000000 in
theorem c_X5_planCuts (l : Launch) (D : va_G) (ct : Nat → ClassId) (ad : Nat → Nat → Nat) (L : List (Nat × Nat)) (φ : Nat → Nat → Nat → Bool) (N0 : Nat) (σ : St) (x1 : Int) (x2 : Int) (x3 : Int) (Q : Int → St → Prop) (hw : wp_X5_planCuts σ x1 x2 x3 Q) : Met l yX5_planCuts (.code yX5_planCuts cX5_planCuts 6 (some .int) :: gw) ({ frames := 3, cells := 0, slots := 0, locals := 86 } : Room) (Pm D ct ad L φ N0 σ [.ref (ad 5 0), .int (iv x1), .int (iv x2), .int (iv x3)]) (Qi D ct ad L φ N0 Q) 0 0 (AA N0) := by
  refine m_of (by decide) (fun p e s m below meth c X hnm h => ?_)
  have hF := X.2.2.2.2.2.2.2.2.1
  have hl := lv_entry ([.ref (ad 5 0), .int (iv x1), .int (iv x2), .int (iv x3)]) (n := 6) (Nat.le_of_ble_eq_true rfl)
  rw [lg_entry_eq]
  generalize (lg_sl ([.ref (ad 5 0), .int (iv x1), .int (iv x2), .int (iv x3)]) ++ List.replicate (6 - (lg_sl ([.ref (ad 5 0), .int (iv x1), .int (iv x2), .int (iv x3)])).length) Slot.unset).toArray = ls at hl ⊢
  have hl : lv_has ls 6 [(0, .ref (ad 5 0)), (1, .int (iv x1)), (2, .int (iv x2)), (3, .int (iv x3))] := hl
  have h : Hs D ct ad L φ N0 s.heap σ s.heap [] := h
  unfold wp_X5_planCuts at hw
  refine lv_aload_n X.1 X.2.1 dX5_planCuts_0 rfl (lv_at hl 0 rfl) ?_
  refine r_getR (ci := 5) X inw_5 h (hF.1 5 rfl).1 rfl rfl 11 (by decide) kw_396 rfl ((hF.1 5 rfl).2 11) dX5_planCuts_1 ?_
  refine j_iconst X dX5_planCuts_4 ?_
  refine r_iald (n := 4) X h (hF.1 51 rfl).1 rfl (by decide) (by decide) (by decide) dX5_planCuts_5 ?_
  refine lv_aload_n X.1 X.2.1 dX5_planCuts_6 rfl (lv_at hl 0 rfl) ?_
  refine r_getR (ci := 5) X inw_5 h (hF.1 5 rfl).1 rfl rfl 11 (by decide) kw_396 rfl ((hF.1 5 rfl).2 11) dX5_planCuts_7 ?_
  refine j_iconst X dX5_planCuts_10 ?_
  refine r_iald (n := 4) X h (hF.1 51 rfl).1 rfl (by decide) (by decide) (by decide) dX5_planCuts_11 ?_
  refine j_iadd X dX5_planCuts_12 ?_
  refine lv_aload_n X.1 X.2.1 dX5_planCuts_13 rfl (lv_at hl 0 rfl) ?_
  refine r_getR (ci := 5) X inw_5 h (hF.1 5 rfl).1 rfl rfl 11 (by decide) kw_396 rfl ((hF.1 5 rfl).2 11) dX5_planCuts_14 ?_
  refine j_iconst X dX5_planCuts_17 ?_
  refine r_iald (n := 4) X h (hF.1 51 rfl).1 rfl (by decide) (by decide) (by decide) dX5_planCuts_18 ?_
  refine j_iadd X dX5_planCuts_19 ?_
  refine lv_aload_n X.1 X.2.1 dX5_planCuts_20 rfl (lv_at hl 0 rfl) ?_
  refine r_getR (ci := 5) X inw_5 h (hF.1 5 rfl).1 rfl rfl 11 (by decide) kw_396 rfl ((hF.1 5 rfl).2 11) dX5_planCuts_21 ?_
  refine j_iconst X dX5_planCuts_24 ?_
  refine r_iald (n := 4) X h (hF.1 51 rfl).1 rfl (by decide) (by decide) (by decide) dX5_planCuts_25 ?_
  refine j_iadd X dX5_planCuts_26 ?_
  refine j_bind (fun v_15 ev_15 => ?_)
  have hw := hw v_15 ev_15
  refine lv_istore (lv' := [(4, .int (iv v_15)), (0, .ref (ad 5 0)), (1, .int (iv x1)), (2, .int (iv x2)), (3, .int (iv x3))]) X.1 X.2.1 dX5_planCuts_27 hl (by decide) rfl (fun ls hl => ?_)
  refine j_bipush X dX5_planCuts_29 (by decide) ?_
  refine lv_istore (lv' := [(5, .int (iv 8)), (4, .int (iv v_15)), (0, .ref (ad 5 0)), (1, .int (iv x1)), (2, .int (iv x2)), (3, .int (iv x3))]) X.1 X.2.1 dX5_planCuts_31 hl (by decide) rfl (fun ls hl => ?_)
  exact hw.elim (fun n33 hw => lb_X5_planCuts_33 X (lb_X5_planCuts_55 X) n33 σ x1 x2 x3 v_15 8 _ _ _ hw h (lv_sub hl [2, 3, 4, 5, 1, 0] rfl))
end
section
variable {p : Program} {l : Launch} {e : Env} {s : State} {m : MethodId} {args : Array Value} {below : List Frame} {meth : Method} {c : Code} {D : va_G} {ct : Nat → ClassId} {ad : Nat → Nat → Nat} {L : List (Nat × Nat)} {φ : Nat → Nat → Nat → Bool} {N0 : Nat}
variable {Q : Int → St → Prop}
theorem pd_X6_add : yX6_add.cls ≠ "java/lang/invoke/MethodHandle" ∧ yX6_add.cls ≠ "java/lang/invoke/VarHandle" ∧ (parseMethodDescriptor yX6_add.desc).map (fun d => d.parameters.length) = some 5 := by decide +kernel
set_option maxRecDepth 100000 in
set_option maxHeartbeats 4000000 in
theorem c_X6_add (l : Launch) (D : va_G) (ct : Nat → ClassId) (ad : Nat → Nat → Nat) (L : List (Nat × Nat)) (φ : Nat → Nat → Nat → Bool) (N0 : Nat) (σ : St) (x1 : Int) (x2 : Int) (x3 : Int) (x4 : Int) (x5 : Int) (Q : Int → St → Prop) (hw : wp_X6_add σ x1 x2 x3 x4 x5 Q) : Met l yX6_add (.code yX6_add cX6_add 6 (some .int) :: gw) ({ frames := 0, cells := 0, slots := 0, locals := 0 } : Room) (Pm D ct ad L φ N0 σ [.ref (ad 6 0), .int (iv x1), .int (iv x2), .int (iv x3), .int (iv x4), .int (iv x5)]) (Qi D ct ad L φ N0 Q) 0 0 (AA N0) := by
  refine m_of (by decide) (fun p e s m below meth c X hnm h => ?_)
  have hF := X.2.2.2.2.2.2.2.2.1
  have hl := lv_entry ([.ref (ad 6 0), .int (iv x1), .int (iv x2), .int (iv x3), .int (iv x4), .int (iv x5)]) (n := 6) (Nat.le_of_ble_eq_true rfl)
  rw [lg_entry_eq]
  generalize (lg_sl ([.ref (ad 6 0), .int (iv x1), .int (iv x2), .int (iv x3), .int (iv x4), .int (iv x5)]) ++ List.replicate (6 - (lg_sl ([.ref (ad 6 0), .int (iv x1), .int (iv x2), .int (iv x3), .int (iv x4), .int (iv x5)])).length) Slot.unset).toArray = ls at hl ⊢
  have hl : lv_has ls 6 [(0, .ref (ad 6 0)), (1, .int (iv x1)), (2, .int (iv x2)), (3, .int (iv x3)), (4, .int (iv x4)), (5, .int (iv x5))] := hl
  have h : Hs D ct ad L φ N0 s.heap σ s.heap [] := h
  unfold wp_X6_add at hw
  refine lv_aload_n X.1 X.2.1 dX6_add_0 rfl (lv_at hl 0 rfl) ?_
  refine r_getR (ci := 6) X inw_6 h (hF.1 6 rfl).1 rfl rfl 0 (by decide) kw_333 rfl ((hF.1 6 rfl).2 0) dX6_add_1 ?_
  refine lv_aload_n X.1 X.2.1 dX6_add_4 rfl (lv_at hl 0 rfl) ?_
  refine r_get (ci := 6) X inw_6 h (hF.1 6 rfl).1 rfl rfl 6 (by decide) kw_342 rfl dX6_add_5 ?_
  refine lv_iload_n X.1 X.2.1 dX6_add_8 rfl (lv_at hl 1 rfl) ?_
  obtain ⟨g_1, g_2, hw⟩ := hw
  refine r_iast (n := 30) X h (hF.1 55 rfl).1 (fun _ => rfl) (by decide) g_1 g_2 rfl dX6_add_9 (fun H locs h => ?_)
  obtain ⟨σ_3, eσ_3⟩ : ∃ z : St, z = st σ 55 0 (Int.toNat (σ 6 0 6)) x1 := ⟨_, rfl⟩
  rw [← eσ_3] at h
  have hw := hw σ_3 eσ_3
  refine lv_aload_n X.1 X.2.1 dX6_add_10 rfl (lv_at hl 0 rfl) ?_
  refine r_getR (ci := 6) X inw_6 h (hF.1 6 rfl).1 rfl rfl 1 (by decide) kw_334 rfl ((hF.1 6 rfl).2 1) dX6_add_11 ?_
  refine lv_aload_n X.1 X.2.1 dX6_add_14 rfl (lv_at hl 0 rfl) ?_
  refine r_get (ci := 6) X inw_6 h (hF.1 6 rfl).1 rfl rfl 6 (by decide) kw_342 rfl dX6_add_15 ?_
  refine lv_iload_n X.1 X.2.1 dX6_add_18 rfl (lv_at hl 2 rfl) ?_
  obtain ⟨g_4, g_5, hw⟩ := hw
  refine r_iast (n := 30) X h (hF.1 56 rfl).1 (fun _ => rfl) (by decide) g_4 g_5 rfl dX6_add_19 (fun H locs h => ?_)
  obtain ⟨σ_6, eσ_6⟩ : ∃ z : St, z = st σ_3 56 0 (Int.toNat (σ_3 6 0 6)) x2 := ⟨_, rfl⟩
  rw [← eσ_6] at h
  have hw := hw σ_6 eσ_6
  refine lv_aload_n X.1 X.2.1 dX6_add_20 rfl (lv_at hl 0 rfl) ?_
  refine r_getR (ci := 6) X inw_6 h (hF.1 6 rfl).1 rfl rfl 2 (by decide) kw_335 rfl ((hF.1 6 rfl).2 2) dX6_add_21 ?_
  refine lv_aload_n X.1 X.2.1 dX6_add_24 rfl (lv_at hl 0 rfl) ?_
  refine r_get (ci := 6) X inw_6 h (hF.1 6 rfl).1 rfl rfl 6 (by decide) kw_342 rfl dX6_add_25 ?_
  refine lv_iload_n X.1 X.2.1 dX6_add_28 rfl (lv_at hl 3 rfl) ?_
  obtain ⟨g_7, g_8, hw⟩ := hw
  refine r_iast (n := 30) X h (hF.1 57 rfl).1 (fun _ => rfl) (by decide) g_7 g_8 rfl dX6_add_29 (fun H locs h => ?_)
  obtain ⟨σ_9, eσ_9⟩ : ∃ z : St, z = st σ_6 57 0 (Int.toNat (σ_6 6 0 6)) x3 := ⟨_, rfl⟩
  rw [← eσ_9] at h
  have hw := hw σ_9 eσ_9
  refine lv_aload_n X.1 X.2.1 dX6_add_30 rfl (lv_at hl 0 rfl) ?_
  refine r_getR (ci := 6) X inw_6 h (hF.1 6 rfl).1 rfl rfl 3 (by decide) kw_337 rfl ((hF.1 6 rfl).2 3) dX6_add_31 ?_
  refine lv_aload_n X.1 X.2.1 dX6_add_34 rfl (lv_at hl 0 rfl) ?_
  refine r_get (ci := 6) X inw_6 h (hF.1 6 rfl).1 rfl rfl 6 (by decide) kw_342 rfl dX6_add_35 ?_
  refine lv_iload X.1 X.2.1 dX6_add_38 (lv_at hl 4 rfl) ?_
  obtain ⟨g_10, g_11, hw⟩ := hw
  refine r_iast (n := 30) X h (hF.1 58 rfl).1 (fun _ => rfl) (by decide) g_10 g_11 rfl dX6_add_40 (fun H locs h => ?_)
  obtain ⟨σ_12, eσ_12⟩ : ∃ z : St, z = st σ_9 58 0 (Int.toNat (σ_9 6 0 6)) x4 := ⟨_, rfl⟩
  rw [← eσ_12] at h
  have hw := hw σ_12 eσ_12
  refine lv_aload_n X.1 X.2.1 dX6_add_41 rfl (lv_at hl 0 rfl) ?_
  refine r_getR (ci := 6) X inw_6 h (hF.1 6 rfl).1 rfl rfl 4 (by decide) kw_338 rfl ((hF.1 6 rfl).2 4) dX6_add_42 ?_
  refine lv_aload_n X.1 X.2.1 dX6_add_45 rfl (lv_at hl 0 rfl) ?_
  refine r_get (ci := 6) X inw_6 h (hF.1 6 rfl).1 rfl rfl 6 (by decide) kw_342 rfl dX6_add_46 ?_
  refine lv_iload X.1 X.2.1 dX6_add_49 (lv_at hl 5 rfl) ?_
  obtain ⟨g_13, g_14, hw⟩ := hw
  refine r_iast (n := 30) X h (hF.1 59 rfl).1 (fun _ => rfl) (by decide) g_13 g_14 rfl dX6_add_51 (fun H locs h => ?_)
  obtain ⟨σ_15, eσ_15⟩ : ∃ z : St, z = st σ_12 59 0 (Int.toNat (σ_12 6 0 6)) x5 := ⟨_, rfl⟩
  rw [← eσ_15] at h
  have hw := hw σ_15 eσ_15
  refine lv_aload_n X.1 X.2.1 dX6_add_52 rfl (lv_at hl 0 rfl) ?_
  refine r_getR (ci := 6) X inw_6 h (hF.1 6 rfl).1 rfl rfl 5 (by decide) kw_340 rfl ((hF.1 6 rfl).2 5) dX6_add_53 ?_
  refine lv_aload_n X.1 X.2.1 dX6_add_56 rfl (lv_at hl 0 rfl) ?_
  refine r_get (ci := 6) X inw_6 h (hF.1 6 rfl).1 rfl rfl 6 (by decide) kw_342 rfl dX6_add_57 ?_
  refine j_iconst X dX6_add_60 ?_
  obtain ⟨g_16, g_17, hw⟩ := hw
  refine r_iast (n := 30) X h (hF.1 60 rfl).1 (fun _ => rfl) (by decide) g_16 g_17 rfl dX6_add_61 (fun H locs h => ?_)
  obtain ⟨σ_18, eσ_18⟩ : ∃ z : St, z = st σ_15 60 0 (Int.toNat (σ_15 6 0 6)) (-1) := ⟨_, rfl⟩
  rw [← eσ_18] at h
  have hw := hw σ_18 eσ_18
  refine lv_aload_n X.1 X.2.1 dX6_add_62 rfl (lv_at hl 0 rfl) ?_
  refine lv_dup X.1 X.2.1 dX6_add_63 rfl ?_
  refine r_get (ci := 6) X inw_6 h (hF.1 6 rfl).1 rfl rfl 6 (by decide) kw_342 rfl dX6_add_64 ?_
  refine j_iconst X dX6_add_67 ?_
  refine j_iadd X dX6_add_68 ?_
  refine r_put (ci := 6) X inw_6 tyX6 tyX6_ok nmX6 h (hF.1 6 rfl).1 rfl rfl 6 (by decide) kw_342 rfl rfl rfl (Nat.le_of_ble_eq_true rfl) rfl rfl dX6_add_69 (fun H locs h => ?_)
  obtain ⟨σ_19, eσ_19⟩ : ∃ z : St, z = st σ_18 6 0 6 ((σ_18 6 0 6) + 1) := ⟨_, rfl⟩
  rw [← eσ_19] at h
  have hw := hw σ_19 eσ_19
  refine lv_aload_n X.1 X.2.1 dX6_add_72 rfl (lv_at hl 0 rfl) ?_
  refine r_get (ci := 6) X inw_6 h (hF.1 6 rfl).1 rfl rfl 6 (by decide) kw_342 rfl dX6_add_73 ?_
  refine j_iconst X dX6_add_76 ?_
  refine j_isub X dX6_add_77 ?_
  exact k_ir X rfl h hw dX6_add_78
end
