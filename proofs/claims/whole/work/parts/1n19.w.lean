/-! walked by program: 19.w -/
section
variable {p : Program} {l : Launch} {e : Env} {s : State} {m : MethodId} {args : Array Value} {below : List Frame} {meth : Method} {c : Code} {D : va_G} {ct : Nat → ClassId} {ad : Nat → Nat → Nat} {L : List (Nat × Nat)} {φ : Nat → Nat → Nat → Bool} {N0 : Nat}
variable {Q : Int → St → Prop}
theorem pd_X12_rails : yX12_rails.cls ≠ "java/lang/invoke/MethodHandle" ∧ yX12_rails.cls ≠ "java/lang/invoke/VarHandle" ∧ (parseMethodDescriptor yX12_rails.desc).map (fun d => d.parameters.length) = some 1 := by decide +kernel
set_option maxRecDepth 100000 in
set_option maxHeartbeats 4000000 in
theorem c_X12_rails (l : Launch) (D : va_G) (ct : Nat → ClassId) (ad : Nat → Nat → Nat) (L : List (Nat × Nat)) (φ : Nat → Nat → Nat → Bool) (N0 : Nat) (σ : St) (x1 : Int) (Q : Int → St → Prop) (hw : wp_X12_rails σ x1 Q) : Met l yX12_rails (.code yX12_rails cX12_rails 2 (some .int) :: gw) ({ frames := 2, cells := 0, slots := 0, locals := 50 } : Room) (Pm D ct ad L φ N0 σ [.ref (ad 12 0), .int (iv x1)]) (Qi D ct ad L φ N0 Q) 0 0 (AA N0) := by
  refine m_of (by decide) (fun p e s m below meth c X hnm h => ?_)
  have hF := X.2.2.2.2.2.2.2.2.1
  have hl := lv_entry ([.ref (ad 12 0), .int (iv x1)]) (n := 2) (Nat.le_of_ble_eq_true rfl)
  rw [lg_entry_eq]
  generalize (lg_sl ([.ref (ad 12 0), .int (iv x1)]) ++ List.replicate (2 - (lg_sl ([.ref (ad 12 0), .int (iv x1)])).length) Slot.unset).toArray = ls at hl ⊢
  have hl : lv_has ls 2 [(0, .ref (ad 12 0)), (1, .int (iv x1))] := hl
  have h : Hs D ct ad L φ N0 s.heap σ s.heap [] := h
  unfold wp_X12_rails at hw
  refine lv_aload_n X.1 X.2.1 dX12_rails_0 rfl (lv_at hl 0 rfl) ?_
  refine j_iconst X dX12_rails_1 ?_
  refine r_put (ci := 12) X inw_12 tyX12 tyX12_ok nmX12 h (hF.1 12 rfl).1 rfl rfl 0 (by decide) kw_1638 rfl rfl rfl (Nat.le_of_ble_eq_true rfl) rfl rfl dX12_rails_2 (fun H locs h => ?_)
  obtain ⟨σ_1, eσ_1⟩ : ∃ z : St, z = st σ 12 0 0 0 := ⟨_, rfl⟩
  rw [← eσ_1] at h
  have hw := hw σ_1 eσ_1
  refine lv_iload_n X.1 X.2.1 dX12_rails_5 rfl (lv_at hl 1 rfl) ?_
  refine j_iconst X dX12_rails_6 ?_
  refine j_sipush X dX12_rails_7 (by decide) ?_
  refine k_i h (r_S (As := [.int (iv x1), .int (iv 0), .int (iv 999)]) (rest := []) X h (c_X12_within l D ct ad L φ N0 σ_1 x1 0 999 _ hw) rfl rfl ⟨Nat.le_of_ble_eq_true rfl, Nat.le_of_ble_eq_true rfl⟩ kw_1959 kw_1960 kw_129 kw_1961 pd_X12_within rfl hl.1 rfl (Nat.le_of_ble_eq_true rfl) ⟨Nat.le_of_ble_eq_true rfl, Nat.le_of_ble_eq_true rfl⟩ dX12_rails_10) (fun r_3 σ_2 H locs hw h => ?_)
  obtain ⟨g_4, hwt, hwf⟩ := hw
  refine j_if_ne (tgt := 18) X g_4 dX12_rails_13 (by decide) (fun c_6 => ?_) (fun c_6 => ?_)
  · have hw := hwt c_6
    refine lv_aload_n X.1 X.2.1 dX12_rails_18 rfl (lv_at hl 0 rfl) ?_
    refine lv_iload_n X.1 X.2.1 dX12_rails_19 rfl (lv_at hl 1 rfl) ?_
    refine k_v h (r_V (C := RX12) (ci := 12) (As := [.int (iv x1)]) (rest := []) X h (c_X12_plansRails l D ct ad L φ N0 σ_2 x1 _ hw) rfl rfl ⟨Nat.le_of_ble_eq_true rfl, Nat.le_of_ble_eq_true rfl⟩ kw_2365 kw_2367 kw_108 kw_129 kw_2368 ⟨rfl, pd_X12_plansRails⟩ (hF.1 12 rfl).1 rfl rfl rfl hl.1 rfl (Nat.le_of_ble_eq_true rfl) ⟨Nat.le_of_ble_eq_true rfl, Nat.le_of_ble_eq_true rfl⟩ dX12_rails_20) (fun σ_5 H locs hw h => ?_)
    refine lv_aload_n X.1 X.2.1 dX12_rails_23 rfl (lv_at hl 0 rfl) ?_
    refine r_getR (ci := 12) X inw_12 h (hF.1 12 rfl).1 rfl rfl 87 (by decide) kw_1725 rfl ((hF.1 12 rfl).2 87) dX12_rails_24 ?_
    refine j_iconst X dX12_rails_27 ?_
    refine r_iald (n := 2560) X h (hF.1 146 rfl).1 rfl (by decide) (by decide) (by decide) dX12_rails_28 ?_
    exact k_ir X rfl h hw dX12_rails_29
  · have hw := hwf c_6
    refine j_iconst X dX12_rails_16 ?_
    exact k_ir X rfl h hw dX12_rails_17
end
section
variable {p : Program} {l : Launch} {e : Env} {s : State} {m : MethodId} {args : Array Value} {below : List Frame} {meth : Method} {c : Code} {D : va_G} {ct : Nat → ClassId} {ad : Nat → Nat → Nat} {L : List (Nat × Nat)} {φ : Nat → Nat → Nat → Bool} {N0 : Nat}
variable {Q : Int → St → Prop}
set_option maxRecDepth 100000 in
set_option maxHeartbeats 4000000 in
theorem lb_X12_railsOf_111 (X : Cx p s m meth c args cX12_railsOf 6 (some .int) RX12 D ct L φ N0) {K37 : St → Int → Int → Int → Int → Prop} (hK37 : ∀ (σ : St) (x1 : Int) (x2 : Int) (x3 : Int) (x4 : Int) (H : Heap) (locs : List Loc) (ls : Array Slot), K37 σ x1 x2 x3 x4 → Hs D ct ad L φ N0 s.heap σ H locs → lv_has ls 6 [(0, .ref (ad 12 0)), (1, .int (iv x1)), (2, .int (iv x2)), (3, .int (iv x3)), (4, .int (iv x4))] → W p l e ({ frames := 2, cells := 0, slots := 0, locals := 50 } : Room) s m args below meth c H locs 0 0 (MQ below (Qi D ct ad L φ N0 Q) args s 0 0 (AA N0)) (F0 m 37 ls [])) (σ : St) (x1 : Int) (x2 : Int) (x4 : Int) (x5 : Int) (H : Heap) (locs : List Loc) (ls : Array Slot) (hw : wp_X12_railsOf_111 K37 Q σ x1 x2 x4 x5) (h : Hs D ct ad L φ N0 s.heap σ H locs) (hl : lv_has ls 6 [(0, .ref (ad 12 0)), (1, .int (iv x1)), (2, .int (iv x2)), (4, .int (iv x4)), (5, .int (iv x5))]) : W p l e ({ frames := 2, cells := 0, slots := 0, locals := 50 } : Room) s m args below meth c H locs 0 0 (MQ below (Qi D ct ad L φ N0 Q) args s 0 0 (AA N0)) (F0 m 111 ls []) := by
  have hF := X.2.2.2.2.2.2.2.2.1
  unfold wp_X12_railsOf_111 at hw
  refine lv_iload X.1 X.2.1 dX12_railsOf_111 (lv_at hl 4 rfl) ?_
  refine lv_istore_n (lv' := [(3, .int (iv x5)), (0, .ref (ad 12 0)), (1, .int (iv x1)), (2, .int (iv x2)), (4, .int (iv x4)), (5, .int (iv x5))]) X.1 X.2.1 dX12_railsOf_113 rfl hl (by decide) rfl (fun ls hl => ?_)
  refine j_iinc (kk9 := 4) (lv' := [(4, .int (iv (x4 + 1))), (3, .int (iv x5)), (0, .ref (ad 12 0)), (1, .int (iv x1)), (2, .int (iv x2)), (5, .int (iv x5))]) X dX12_railsOf_114 hl rfl (by decide) rfl (fun ls hl => ?_)
  refine lv_goto (tgt := 37) X.1 X.2.1 dX12_railsOf_117 (by decide) ?_
  exact hK37 σ x1 x2 x5 (x4 + 1) _ _ _ hw h (lv_sub hl [2, 3, 4, 1, 0] rfl)
set_option maxRecDepth 100000 in
set_option maxHeartbeats 4000000 in
theorem lb_X12_railsOf_105 (X : Cx p s m meth c args cX12_railsOf 6 (some .int) RX12 D ct L φ N0) {K46 : St → Int → Int → Int → Int → Int → Prop} {K111 : St → Int → Int → Int → Int → Prop} (hK46 : ∀ (σ : St) (x1 : Int) (x2 : Int) (x3 : Int) (x4 : Int) (x5 : Int) (H : Heap) (locs : List Loc) (ls : Array Slot), K46 σ x1 x2 x3 x4 x5 → Hs D ct ad L φ N0 s.heap σ H locs → lv_has ls 6 [(0, .ref (ad 12 0)), (1, .int (iv x1)), (2, .int (iv x2)), (3, .int (iv x3)), (4, .int (iv x4)), (5, .int (iv x5))] → W p l e ({ frames := 2, cells := 0, slots := 0, locals := 50 } : Room) s m args below meth c H locs 0 0 (MQ below (Qi D ct ad L φ N0 Q) args s 0 0 (AA N0)) (F0 m 46 ls [])) (hK111 : ∀ (σ : St) (x1 : Int) (x2 : Int) (x4 : Int) (x5 : Int) (H : Heap) (locs : List Loc) (ls : Array Slot), K111 σ x1 x2 x4 x5 → Hs D ct ad L φ N0 s.heap σ H locs → lv_has ls 6 [(0, .ref (ad 12 0)), (1, .int (iv x1)), (2, .int (iv x2)), (4, .int (iv x4)), (5, .int (iv x5))] → W p l e ({ frames := 2, cells := 0, slots := 0, locals := 50 } : Room) s m args below meth c H locs 0 0 (MQ below (Qi D ct ad L φ N0 Q) args s 0 0 (AA N0)) (F0 m 111 ls [])) (σ : St) (x1 : Int) (x2 : Int) (x3 : Int) (x4 : Int) (x5 : Int) (H : Heap) (locs : List Loc) (ls : Array Slot) (hw : wp_X12_railsOf_105 K46 K111 Q σ x1 x2 x3 x4 x5) (h : Hs D ct ad L φ N0 s.heap σ H locs) (hl : lv_has ls 6 [(0, .ref (ad 12 0)), (1, .int (iv x1)), (2, .int (iv x2)), (3, .int (iv x3)), (4, .int (iv x4)), (5, .int (iv x5))]) : W p l e ({ frames := 2, cells := 0, slots := 0, locals := 50 } : Room) s m args below meth c H locs 0 0 (MQ below (Qi D ct ad L φ N0 Q) args s 0 0 (AA N0)) (F0 m 105 ls []) := by
  have hF := X.2.2.2.2.2.2.2.2.1
  unfold wp_X12_railsOf_105 at hw
  refine j_iinc (kk9 := 5) (lv' := [(5, .int (iv (x5 + 1))), (0, .ref (ad 12 0)), (1, .int (iv x1)), (2, .int (iv x2)), (3, .int (iv x3)), (4, .int (iv x4))]) X dX12_railsOf_105 hl rfl (by decide) rfl (fun ls hl => ?_)
  refine lv_goto (tgt := 46) X.1 X.2.1 dX12_railsOf_108 (by decide) ?_
  exact hK46 σ x1 x2 x3 x4 (x5 + 1) _ _ _ hw h (lv_sub hl [1, 2, 3, 4, 5, 0] rfl)
set_option maxRecDepth 100000 in
set_option maxHeartbeats 4000000 in
theorem lb_X12_railsOf_46 (X : Cx p s m meth c args cX12_railsOf 6 (some .int) RX12 D ct L φ N0) {K111 : St → Int → Int → Int → Int → Prop} (hK111 : ∀ (σ : St) (x1 : Int) (x2 : Int) (x4 : Int) (x5 : Int) (H : Heap) (locs : List Loc) (ls : Array Slot), K111 σ x1 x2 x4 x5 → Hs D ct ad L φ N0 s.heap σ H locs → lv_has ls 6 [(0, .ref (ad 12 0)), (1, .int (iv x1)), (2, .int (iv x2)), (4, .int (iv x4)), (5, .int (iv x5))] → W p l e ({ frames := 2, cells := 0, slots := 0, locals := 50 } : Room) s m args below meth c H locs 0 0 (MQ below (Qi D ct ad L φ N0 Q) args s 0 0 (AA N0)) (F0 m 111 ls [])) : ∀ (n : Nat) (σ : St) (x1 : Int) (x2 : Int) (x3 : Int) (x4 : Int) (x5 : Int) (H : Heap) (locs : List Loc) (ls : Array Slot), wp_X12_railsOf_46 K111 Q n σ x1 x2 x3 x4 x5 → Hs D ct ad L φ N0 s.heap σ H locs → lv_has ls 6 [(0, .ref (ad 12 0)), (1, .int (iv x1)), (2, .int (iv x2)), (3, .int (iv x3)), (4, .int (iv x4)), (5, .int (iv x5))] → W p l e ({ frames := 2, cells := 0, slots := 0, locals := 50 } : Room) s m args below meth c H locs 0 0 (MQ below (Qi D ct ad L φ N0 Q) args s 0 0 (AA N0)) (F0 m 46 ls []) := by
  have hF := X.2.2.2.2.2.2.2.2.1
  intro n
  induction n with
  | zero => intro σ x1 x2 x3 x4 x5 H locs ls hw; exact hw.elim
  | succ n ih =>
    intro σ x1 x2 x3 x4 x5 H locs ls hw h hl
    unfold wp_X12_railsOf_46 at hw
    refine lv_aload_n X.1 X.2.1 dX12_railsOf_46 rfl (lv_at hl 0 rfl) ?_
    refine lv_iload X.1 X.2.1 dX12_railsOf_47 (lv_at hl 4 rfl) ?_
    refine lv_iload_n X.1 X.2.1 dX12_railsOf_49 rfl (lv_at hl 3 rfl) ?_
    refine lv_iload X.1 X.2.1 dX12_railsOf_50 (lv_at hl 5 rfl) ?_
    refine lv_iload_n X.1 X.2.1 dX12_railsOf_52 rfl (lv_at hl 1 rfl) ?_
    refine k_i h (r_V (C := RX12) (ci := 12) (As := [.int (iv x4), .int (iv x3), .int (iv x5), .int (iv x1)]) (rest := []) X h (c_X12_costs l D ct ad L φ N0 σ x4 x3 x5 x1 _ hw) rfl rfl ⟨Nat.le_of_ble_eq_true rfl, Nat.le_of_ble_eq_true rfl⟩ kw_2387 kw_2389 kw_112 kw_129 kw_2390 ⟨rfl, pd_X12_costs⟩ (hF.1 12 rfl).1 rfl rfl rfl hl.1 rfl (Nat.le_of_ble_eq_true rfl) ⟨Nat.le_of_ble_eq_true rfl, Nat.le_of_ble_eq_true rfl⟩ dX12_railsOf_53) (fun r_2 σ_1 H locs hw h => ?_)
    refine j_ldc_w (n := 100000000) X kw_2377 (by decide) dX12_railsOf_56 ?_
    obtain ⟨g_3, hwt, hwf⟩ := hw
    refine j_cmp_eq (tgt := 105) X g_3 ⟨by decide, by decide⟩ dX12_railsOf_59 (by decide) (fun c_13 => ?_) (fun c_13 => ?_)
    · have hw := hwt c_13
      exact lb_X12_railsOf_105 X ih hK111 σ_1 x1 x2 x3 x4 x5 _ _ _ hw h (lv_sub hl [0, 1, 2, 3, 4, 5] rfl)
    · have hw := hwf c_13
      refine lv_aload_n X.1 X.2.1 dX12_railsOf_62 rfl (lv_at hl 0 rfl) ?_
      refine lv_iload X.1 X.2.1 dX12_railsOf_63 (lv_at hl 4 rfl) ?_
      refine lv_iload_n X.1 X.2.1 dX12_railsOf_65 rfl (lv_at hl 3 rfl) ?_
      refine lv_iload X.1 X.2.1 dX12_railsOf_66 (lv_at hl 5 rfl) ?_
      refine lv_iload_n X.1 X.2.1 dX12_railsOf_68 rfl (lv_at hl 1 rfl) ?_
      refine k_i h (r_V (C := RX12) (ci := 12) (As := [.int (iv x4), .int (iv x3), .int (iv x5), .int (iv x1)]) (rest := []) X h (c_X12_costs l D ct ad L φ N0 σ_1 x4 x3 x5 x1 _ hw) rfl rfl ⟨Nat.le_of_ble_eq_true rfl, Nat.le_of_ble_eq_true rfl⟩ kw_2387 kw_2389 kw_112 kw_129 kw_2390 ⟨rfl, pd_X12_costs⟩ (hF.1 12 rfl).1 rfl rfl rfl hl.1 rfl (Nat.le_of_ble_eq_true rfl) ⟨Nat.le_of_ble_eq_true rfl, Nat.le_of_ble_eq_true rfl⟩ dX12_railsOf_69) (fun r_5 σ_4 H locs hw h => ?_)
      refine lv_aload_n X.1 X.2.1 dX12_railsOf_72 rfl (lv_at hl 0 rfl) ?_
      refine r_getR (ci := 12) X inw_12 h (hF.1 12 rfl).1 rfl rfl 87 (by decide) kw_1725 rfl ((hF.1 12 rfl).2 87) dX12_railsOf_73 ?_
      refine j_sipush X dX12_railsOf_76 (by decide) ?_
      refine lv_iload X.1 X.2.1 dX12_railsOf_79 (lv_at hl 4 rfl) ?_
      refine j_iconst X dX12_railsOf_81 ?_
      refine j_iadd X dX12_railsOf_82 ?_
      refine j_imul X dX12_railsOf_83 ?_
      refine lv_iload X.1 X.2.1 dX12_railsOf_84 (lv_at hl 5 rfl) ?_
      refine j_iadd X dX12_railsOf_86 ?_
      obtain ⟨g_6, g_7, hw⟩ := hw
      refine r_iald (n := 2560) X h (hF.1 146 rfl).1 rfl (by decide) g_6 g_7 dX12_railsOf_87 ?_
      refine j_iadd X dX12_railsOf_88 ?_
      refine lv_aload_n X.1 X.2.1 dX12_railsOf_89 rfl (lv_at hl 0 rfl) ?_
      refine r_getR (ci := 12) X inw_12 h (hF.1 12 rfl).1 rfl rfl 87 (by decide) kw_1725 rfl ((hF.1 12 rfl).2 87) dX12_railsOf_90 ?_
      refine j_sipush X dX12_railsOf_93 (by decide) ?_
      refine lv_iload X.1 X.2.1 dX12_railsOf_96 (lv_at hl 4 rfl) ?_
      refine j_imul X dX12_railsOf_98 ?_
      refine lv_iload_n X.1 X.2.1 dX12_railsOf_99 rfl (lv_at hl 3 rfl) ?_
      refine j_iadd X dX12_railsOf_100 ?_
      obtain ⟨g_8, g_9, hw⟩ := hw
      refine r_iald (n := 2560) X h (hF.1 146 rfl).1 rfl (by decide) g_8 g_9 dX12_railsOf_101 ?_
      obtain ⟨g_10, g_11, hwt, hwf⟩ := hw
      refine j_cmp_eq (tgt := 111) X g_10 g_11 dX12_railsOf_102 (by decide) (fun c_12 => ?_) (fun c_12 => ?_)
      · have hw := hwt c_12
        exact hK111 σ_4 x1 x2 x4 x5 _ _ _ hw h (lv_sub hl [0, 1, 2, 4, 5] rfl)
      · have hw := hwf c_12
        exact lb_X12_railsOf_105 X ih hK111 σ_4 x1 x2 x3 x4 x5 _ _ _ hw h (lv_sub hl [0, 1, 2, 3, 4, 5] rfl)
set_option maxRecDepth 100000 in
set_option maxHeartbeats 4000000 in
theorem lb_X12_railsOf_37 (X : Cx p s m meth c args cX12_railsOf 6 (some .int) RX12 D ct L φ N0) : ∀ (n : Nat) (σ : St) (x1 : Int) (x2 : Int) (x3 : Int) (x4 : Int) (H : Heap) (locs : List Loc) (ls : Array Slot), wp_X12_railsOf_37 Q n σ x1 x2 x3 x4 → Hs D ct ad L φ N0 s.heap σ H locs → lv_has ls 6 [(0, .ref (ad 12 0)), (1, .int (iv x1)), (2, .int (iv x2)), (3, .int (iv x3)), (4, .int (iv x4))] → W p l e ({ frames := 2, cells := 0, slots := 0, locals := 50 } : Room) s m args below meth c H locs 0 0 (MQ below (Qi D ct ad L φ N0 Q) args s 0 0 (AA N0)) (F0 m 37 ls []) := by
  have hF := X.2.2.2.2.2.2.2.2.1
  intro n
  induction n with
  | zero => intro σ x1 x2 x3 x4 H locs ls hw; exact hw.elim
  | succ n ih =>
    intro σ x1 x2 x3 x4 H locs ls hw h hl
    unfold wp_X12_railsOf_37 at hw
    refine lv_iload X.1 X.2.1 dX12_railsOf_37 (lv_at hl 4 rfl) ?_
    refine lv_iload_n X.1 X.2.1 dX12_railsOf_39 rfl (lv_at hl 2 rfl) ?_
    obtain ⟨g_14, g_15, hwt, hwf⟩ := hw
    refine j_cmp_gt (tgt := 120) X g_14 g_15 dX12_railsOf_40 (by decide) (fun c_16 => ?_) (fun c_16 => ?_)
    · have hw := hwt c_16
      refine lv_iload_n X.1 X.2.1 dX12_railsOf_120 rfl (lv_at hl 3 rfl) ?_
      exact k_ir X rfl h hw dX12_railsOf_121
    · have hw := hwf c_16
      refine j_iconst X dX12_railsOf_43 ?_
      refine lv_istore (lv' := [(5, .int (iv 0)), (0, .ref (ad 12 0)), (1, .int (iv x1)), (2, .int (iv x2)), (3, .int (iv x3)), (4, .int (iv x4))]) X.1 X.2.1 dX12_railsOf_44 hl (by decide) rfl (fun ls hl => ?_)
      exact hw.elim (fun n46 hw => lb_X12_railsOf_46 X (lb_X12_railsOf_111 X ih) n46 σ x1 x2 x3 x4 0 _ _ _ hw h (lv_sub hl [1, 2, 3, 4, 5, 0] rfl))
theorem pd_X12_railsOf : yX12_railsOf.cls ≠ "java/lang/invoke/MethodHandle" ∧ yX12_railsOf.cls ≠ "java/lang/invoke/VarHandle" ∧ (parseMethodDescriptor yX12_railsOf.desc).map (fun d => d.parameters.length) = some 2 := by decide +kernel
set_option maxRecDepth 100000 in
set_option maxHeartbeats 4000000 in
theorem c_X12_railsOf (l : Launch) (D : va_G) (ct : Nat → ClassId) (ad : Nat → Nat → Nat) (L : List (Nat × Nat)) (φ : Nat → Nat → Nat → Bool) (N0 : Nat) (σ : St) (x1 : Int) (x2 : Int) (Q : Int → St → Prop) (hw : wp_X12_railsOf σ x1 x2 Q) : Met l yX12_railsOf (.code yX12_railsOf cX12_railsOf 6 (some .int) :: gw) ({ frames := 2, cells := 0, slots := 0, locals := 50 } : Room) (Pm D ct ad L φ N0 σ [.ref (ad 12 0), .int (iv x1), .int (iv x2)]) (Qi D ct ad L φ N0 Q) 0 0 (AA N0) := by
  refine m_of (by decide) (fun p e s m below meth c X hnm h => ?_)
  have hF := X.2.2.2.2.2.2.2.2.1
  have hl := lv_entry ([.ref (ad 12 0), .int (iv x1), .int (iv x2)]) (n := 6) (Nat.le_of_ble_eq_true rfl)
  rw [lg_entry_eq]
  generalize (lg_sl ([.ref (ad 12 0), .int (iv x1), .int (iv x2)]) ++ List.replicate (6 - (lg_sl ([.ref (ad 12 0), .int (iv x1), .int (iv x2)])).length) Slot.unset).toArray = ls at hl ⊢
  have hl : lv_has ls 6 [(0, .ref (ad 12 0)), (1, .int (iv x1)), (2, .int (iv x2))] := hl
  have h : Hs D ct ad L φ N0 s.heap σ s.heap [] := h
  unfold wp_X12_railsOf at hw
  refine lv_aload_n X.1 X.2.1 dX12_railsOf_0 rfl (lv_at hl 0 rfl) ?_
  refine j_iconst X dX12_railsOf_1 ?_
  refine r_put (ci := 12) X inw_12 tyX12 tyX12_ok nmX12 h (hF.1 12 rfl).1 rfl rfl 0 (by decide) kw_1638 rfl rfl rfl (Nat.le_of_ble_eq_true rfl) rfl rfl dX12_railsOf_2 (fun H locs h => ?_)
  obtain ⟨σ_17, eσ_17⟩ : ∃ z : St, z = st σ 12 0 0 0 := ⟨_, rfl⟩
  rw [← eσ_17] at h
  have hw := hw σ_17 eσ_17
  refine lv_iload_n X.1 X.2.1 dX12_railsOf_5 rfl (lv_at hl 1 rfl) ?_
  refine j_iconst X dX12_railsOf_6 ?_
  refine j_sipush X dX12_railsOf_7 (by decide) ?_
  refine k_i h (r_S (As := [.int (iv x1), .int (iv 0), .int (iv 999)]) (rest := []) X h (c_X12_within l D ct ad L φ N0 σ_17 x1 0 999 _ hw) rfl rfl ⟨Nat.le_of_ble_eq_true rfl, Nat.le_of_ble_eq_true rfl⟩ kw_1959 kw_1960 kw_129 kw_1961 pd_X12_within rfl hl.1 rfl (Nat.le_of_ble_eq_true rfl) ⟨Nat.le_of_ble_eq_true rfl, Nat.le_of_ble_eq_true rfl⟩ dX12_railsOf_10) (fun r_19 σ_18 H locs hw h => ?_)
  obtain ⟨g_20, hwt, hwf⟩ := hw
  refine j_if_eq (tgt := 25) X g_20 dX12_railsOf_13 (by decide) (fun c_26 => ?_) (fun c_26 => ?_)
  · have hw := hwt c_26
    refine j_iconst X dX12_railsOf_25 ?_
    exact k_ir X rfl h hw dX12_railsOf_26
  · have hw := hwf c_26
    refine lv_iload_n X.1 X.2.1 dX12_railsOf_16 rfl (lv_at hl 2 rfl) ?_
    refine j_iconst X dX12_railsOf_17 ?_
    refine j_iconst X dX12_railsOf_18 ?_
    refine k_i h (r_S (As := [.int (iv x2), .int (iv 0), .int (iv 3)]) (rest := []) X h (c_X12_within l D ct ad L φ N0 σ_18 x2 0 3 _ hw) rfl rfl ⟨Nat.le_of_ble_eq_true rfl, Nat.le_of_ble_eq_true rfl⟩ kw_1959 kw_1960 kw_129 kw_1961 pd_X12_within rfl hl.1 rfl (Nat.le_of_ble_eq_true rfl) ⟨Nat.le_of_ble_eq_true rfl, Nat.le_of_ble_eq_true rfl⟩ dX12_railsOf_19) (fun r_22 σ_21 H locs hw h => ?_)
    obtain ⟨g_23, hwt, hwf⟩ := hw
    refine j_if_ne (tgt := 27) X g_23 dX12_railsOf_22 (by decide) (fun c_25 => ?_) (fun c_25 => ?_)
    · have hw := hwt c_25
      refine lv_aload_n X.1 X.2.1 dX12_railsOf_27 rfl (lv_at hl 0 rfl) ?_
      refine lv_iload_n X.1 X.2.1 dX12_railsOf_28 rfl (lv_at hl 1 rfl) ?_
      refine k_v h (r_V (C := RX12) (ci := 12) (As := [.int (iv x1)]) (rest := []) X h (c_X12_plansRails l D ct ad L φ N0 σ_21 x1 _ hw) rfl rfl ⟨Nat.le_of_ble_eq_true rfl, Nat.le_of_ble_eq_true rfl⟩ kw_2365 kw_2367 kw_108 kw_129 kw_2368 ⟨rfl, pd_X12_plansRails⟩ (hF.1 12 rfl).1 rfl rfl rfl hl.1 rfl (Nat.le_of_ble_eq_true rfl) ⟨Nat.le_of_ble_eq_true rfl, Nat.le_of_ble_eq_true rfl⟩ dX12_railsOf_29) (fun σ_24 H locs hw h => ?_)
      refine j_iconst X dX12_railsOf_32 ?_
      refine lv_istore_n (lv' := [(3, .int (iv 0)), (0, .ref (ad 12 0)), (1, .int (iv x1)), (2, .int (iv x2))]) X.1 X.2.1 dX12_railsOf_33 rfl hl (by decide) rfl (fun ls hl => ?_)
      refine j_iconst X dX12_railsOf_34 ?_
      refine lv_istore (lv' := [(4, .int (iv 0)), (3, .int (iv 0)), (0, .ref (ad 12 0)), (1, .int (iv x1)), (2, .int (iv x2))]) X.1 X.2.1 dX12_railsOf_35 hl (by decide) rfl (fun ls hl => ?_)
      exact hw.elim (fun n37 hw => lb_X12_railsOf_37 X n37 σ_24 x1 x2 0 0 _ _ _ hw h (lv_sub hl [2, 3, 4, 1, 0] rfl))
    · have hw := hwf c_25
      refine j_iconst X dX12_railsOf_25 ?_
      exact k_ir X rfl h hw dX12_railsOf_26
end
section
variable {p : Program} {l : Launch} {e : Env} {s : State} {m : MethodId} {args : Array Value} {below : List Frame} {meth : Method} {c : Code} {D : va_G} {ct : Nat → ClassId} {ad : Nat → Nat → Nat} {L : List (Nat × Nat)} {φ : Nat → Nat → Nat → Bool} {N0 : Nat}
variable {Q : Int → St → Prop}
theorem pd_X12_stateOf : yX12_stateOf.cls ≠ "java/lang/invoke/MethodHandle" ∧ yX12_stateOf.cls ≠ "java/lang/invoke/VarHandle" ∧ (parseMethodDescriptor yX12_stateOf.desc).map (fun d => d.parameters.length) = some 3 := by decide +kernel
set_option maxRecDepth 100000 in
set_option maxHeartbeats 4000000 in
theorem c_X12_stateOf (l : Launch) (D : va_G) (ct : Nat → ClassId) (ad : Nat → Nat → Nat) (L : List (Nat × Nat)) (φ : Nat → Nat → Nat → Bool) (N0 : Nat) (σ : St) (x0 : Int) (x1 : Int) (x2 : Int) (Q : Int → St → Prop) (hw : wp_X12_stateOf σ x0 x1 x2 Q) : Met l yX12_stateOf (.code yX12_stateOf cX12_stateOf 3 (some .int) :: gw) ({ frames := 0, cells := 0, slots := 0, locals := 0 } : Room) (Pm D ct ad L φ N0 σ [.int (iv x0), .int (iv x1), .int (iv x2)]) (Qi D ct ad L φ N0 Q) 0 0 (AA N0) := by
  refine m_of (by decide) (fun p e s m below meth c X hnm h => ?_)
  have hF := X.2.2.2.2.2.2.2.2.1
  have hl := lv_entry ([.int (iv x0), .int (iv x1), .int (iv x2)]) (n := 3) (Nat.le_of_ble_eq_true rfl)
  rw [lg_entry_eq]
  generalize (lg_sl ([.int (iv x0), .int (iv x1), .int (iv x2)]) ++ List.replicate (3 - (lg_sl ([.int (iv x0), .int (iv x1), .int (iv x2)])).length) Slot.unset).toArray = ls at hl ⊢
  have hl : lv_has ls 3 [(0, .int (iv x0)), (1, .int (iv x1)), (2, .int (iv x2))] := hl
  have h : Hs D ct ad L φ N0 s.heap σ s.heap [] := h
  unfold wp_X12_stateOf at hw
  refine j_sipush X dX12_stateOf_0 (by decide) ?_
  refine lv_iload_n X.1 X.2.1 dX12_stateOf_3 rfl (lv_at hl 0 rfl) ?_
  refine j_imul X dX12_stateOf_4 ?_
  refine j_bipush X dX12_stateOf_5 (by decide) ?_
  refine lv_iload_n X.1 X.2.1 dX12_stateOf_7 rfl (lv_at hl 1 rfl) ?_
  refine j_imul X dX12_stateOf_8 ?_
  refine j_iadd X dX12_stateOf_9 ?_
  refine lv_iload_n X.1 X.2.1 dX12_stateOf_10 rfl (lv_at hl 2 rfl) ?_
  refine j_iadd X dX12_stateOf_11 ?_
  exact k_ir X rfl h hw dX12_stateOf_12
end
section
variable {p : Program} {l : Launch} {e : Env} {s : State} {m : MethodId} {args : Array Value} {below : List Frame} {meth : Method} {c : Code} {D : va_G} {ct : Nat → ClassId} {ad : Nat → Nat → Nat} {L : List (Nat × Nat)} {φ : Nat → Nat → Nat → Bool} {N0 : Nat}
variable {Q : Int → St → Prop}
theorem pd_X12_withCut : yX12_withCut.cls ≠ "java/lang/invoke/MethodHandle" ∧ yX12_withCut.cls ≠ "java/lang/invoke/VarHandle" ∧ (parseMethodDescriptor yX12_withCut.desc).map (fun d => d.parameters.length) = some 7 := by decide +kernel
set_option maxRecDepth 100000 in
set_option maxHeartbeats 4000000 in
theorem c_X12_withCut (l : Launch) (D : va_G) (ct : Nat → ClassId) (ad : Nat → Nat → Nat) (L : List (Nat × Nat)) (φ : Nat → Nat → Nat → Bool) (N0 : Nat) (σ : St) (x1 : Int) (x2 : Int) (x3 : Int) (x4 : Int) (x5 : Int) (x6 : Int) (x7 : Int) (Q : Int → St → Prop) (hw : wp_X12_withCut σ x1 x2 x3 x4 x5 x6 x7 Q) : Met l yX12_withCut (.code yX12_withCut cX12_withCut 10 (some .int) :: gw) ({ frames := 1, cells := 0, slots := 0, locals := 22 } : Room) (Pm D ct ad L φ N0 σ [.ref (ad 12 0), .int (iv x1), .int (iv x2), .int (iv x3), .int (iv x4), .int (iv x5), .int (iv x6), .int (iv x7)]) (Qi D ct ad L φ N0 Q) 0 0 (AA N0) := by
  refine m_of (by decide) (fun p e s m below meth c X hnm h => ?_)
  have hF := X.2.2.2.2.2.2.2.2.1
  have hl := lv_entry ([.ref (ad 12 0), .int (iv x1), .int (iv x2), .int (iv x3), .int (iv x4), .int (iv x5), .int (iv x6), .int (iv x7)]) (n := 10) (Nat.le_of_ble_eq_true rfl)
  rw [lg_entry_eq]
  generalize (lg_sl ([.ref (ad 12 0), .int (iv x1), .int (iv x2), .int (iv x3), .int (iv x4), .int (iv x5), .int (iv x6), .int (iv x7)]) ++ List.replicate (10 - (lg_sl ([.ref (ad 12 0), .int (iv x1), .int (iv x2), .int (iv x3), .int (iv x4), .int (iv x5), .int (iv x6), .int (iv x7)])).length) Slot.unset).toArray = ls at hl ⊢
  have hl : lv_has ls 10 [(0, .ref (ad 12 0)), (1, .int (iv x1)), (2, .int (iv x2)), (3, .int (iv x3)), (4, .int (iv x4)), (5, .int (iv x5)), (6, .int (iv x6)), (7, .int (iv x7))] := hl
  have h : Hs D ct ad L φ N0 s.heap σ s.heap [] := h
  unfold wp_X12_withCut at hw
  refine j_iconst X dX12_withCut_0 ?_
  refine lv_iload X.1 X.2.1 dX12_withCut_1 (lv_at hl 6 rfl) ?_
  refine j_imul X dX12_withCut_3 ?_
  refine j_iconst X dX12_withCut_4 ?_
  refine lv_iload X.1 X.2.1 dX12_withCut_5 (lv_at hl 7 rfl) ?_
  refine j_imul X dX12_withCut_7 ?_
  refine j_iadd X dX12_withCut_8 ?_
  refine j_bind (fun v_1 ev_1 => ?_)
  have hw := hw v_1 ev_1
  refine lv_istore (lv' := [(8, .int (iv v_1)), (0, .ref (ad 12 0)), (1, .int (iv x1)), (2, .int (iv x2)), (3, .int (iv x3)), (4, .int (iv x4)), (5, .int (iv x5)), (6, .int (iv x6)), (7, .int (iv x7))]) X.1 X.2.1 dX12_withCut_9 hl (by decide) rfl (fun ls hl => ?_)
  refine lv_iload X.1 X.2.1 dX12_withCut_11 (lv_at hl 0 rfl) ?_
  refine lv_aload_n X.1 X.2.1 dX12_withCut_13 rfl (lv_at hl 1 rfl) ?_
  refine r_get (ci := 12) X inw_12 h (hF.1 12 rfl).1 rfl rfl 95 (by decide) kw_1733 rfl dX12_withCut_14 ?_
  refine lv_aload_n X.1 X.2.1 dX12_withCut_17 rfl (lv_at hl 1 rfl) ?_
  refine r_get (ci := 12) X inw_12 h (hF.1 12 rfl).1 rfl rfl 96 (by decide) kw_1734 rfl dX12_withCut_18 ?_
  refine k_i h (r_S (As := [.int (iv v_1), .int (iv (σ 12 0 95)), .int (iv (σ 12 0 96))]) (rest := []) X h (c_X12_within l D ct ad L φ N0 σ v_1 (σ 12 0 95) (σ 12 0 96) _ hw) rfl rfl ⟨Nat.le_of_ble_eq_true rfl, Nat.le_of_ble_eq_true rfl⟩ kw_1959 kw_1960 kw_129 kw_1961 pd_X12_within rfl hl.1 rfl (Nat.le_of_ble_eq_true rfl) ⟨Nat.le_of_ble_eq_true rfl, Nat.le_of_ble_eq_true rfl⟩ dX12_withCut_21) (fun r_3 σ_2 H locs hw h => ?_)
  obtain ⟨g_4, hwt, hwf⟩ := hw
  refine j_if_ne (tgt := 29) X g_4 dX12_withCut_24 (by decide) (fun c_12 => ?_) (fun c_12 => ?_)
  · have hw := hwt c_12
    refine lv_aload_n X.1 X.2.1 dX12_withCut_29 rfl (lv_at hl 1 rfl) ?_
    refine r_getR (ci := 12) X inw_12 h (hF.1 12 rfl).1 rfl rfl 90 (by decide) kw_1728 rfl ((hF.1 12 rfl).2 90) dX12_withCut_30 ?_
    refine j_sipush X dX12_withCut_33 (by decide) ?_
    refine lv_iload_n X.1 X.2.1 dX12_withCut_36 rfl (lv_at hl 2 rfl) ?_
    refine j_iconst X dX12_withCut_37 ?_
    refine j_iadd X dX12_withCut_38 ?_
    refine j_imul X dX12_withCut_39 ?_
    refine lv_iload X.1 X.2.1 dX12_withCut_40 (lv_at hl 7 rfl) ?_
    refine lv_iload X.1 X.2.1 dX12_withCut_42 (lv_at hl 8 rfl) ?_
    refine j_iadd X dX12_withCut_44 ?_
    refine lv_iload_n X.1 X.2.1 dX12_withCut_45 rfl (lv_at hl 3 rfl) ?_
    refine lv_iload_n X.1 X.2.1 dX12_withCut_46 rfl (lv_at hl 4 rfl) ?_
    refine k_i h (r_S (As := [.int (iv (x6 + x7)), .int (iv x2), .int (iv x3)]) (rest := [.int (iv (2197 * (x1 + 1))), .ref (ad 149 0)]) X h (c_X12_stateOf l D ct ad L φ N0 σ_2 (x6 + x7) x2 x3 _ hw) rfl rfl ⟨Nat.le_of_ble_eq_true rfl, Nat.le_of_ble_eq_true rfl⟩ kw_2399 kw_2400 kw_129 kw_2401 pd_X12_stateOf rfl hl.1 rfl (Nat.le_of_ble_eq_true rfl) ⟨Nat.le_of_ble_eq_true rfl, Nat.le_of_ble_eq_true rfl⟩ dX12_withCut_47) (fun r_6 σ_5 H locs hw h => ?_)
    refine j_iadd X dX12_withCut_50 ?_
    obtain ⟨g_7, g_8, hw⟩ := hw
    refine r_iald (n := 19773) X h (hF.1 149 rfl).1 rfl (by decide) g_7 g_8 dX12_withCut_51 ?_
    refine j_bind (fun v_9 ev_9 => ?_)
    have hw := hw v_9 ev_9
    refine lv_istore (lv' := [(9, .int (iv v_9)), (8, .int (iv v_1)), (0, .ref (ad 12 0)), (1, .int (iv x1)), (2, .int (iv x2)), (3, .int (iv x3)), (4, .int (iv x4)), (5, .int (iv x5)), (6, .int (iv x6)), (7, .int (iv x7))]) X.1 X.2.1 dX12_withCut_52 hl (by decide) rfl (fun ls hl => ?_)
    refine lv_iload X.1 X.2.1 dX12_withCut_54 (lv_at hl 0 rfl) ?_
    refine j_iconst X dX12_withCut_56 ?_
    obtain ⟨g_10, hwt, hwf⟩ := hw
    refine j_cmp_ne (tgt := 64) X g_10 ⟨by decide, by decide⟩ dX12_withCut_57 (by decide) (fun c_11 => ?_) (fun c_11 => ?_)
    · have hw := hwt c_11
      refine lv_iload X.1 X.2.1 dX12_withCut_64 (lv_at hl 1 rfl) ?_
      refine lv_iload X.1 X.2.1 dX12_withCut_66 (lv_at hl 0 rfl) ?_
      refine j_iadd X dX12_withCut_68 ?_
      exact k_ir X rfl h hw dX12_withCut_69
    · have hw := hwf c_11
      refine j_iconst X dX12_withCut_60 ?_
      refine lv_goto (tgt := 69) X.1 X.2.1 dX12_withCut_61 (by decide) ?_
      exact k_ir X rfl h hw dX12_withCut_69
  · have hw := hwf c_12
    refine j_iconst X dX12_withCut_27 ?_
    exact k_ir X rfl h hw dX12_withCut_28
end
section
variable {p : Program} {l : Launch} {e : Env} {s : State} {m : MethodId} {args : Array Value} {below : List Frame} {meth : Method} {c : Code} {D : va_G} {ct : Nat → ClassId} {ad : Nat → Nat → Nat} {L : List (Nat × Nat)} {φ : Nat → Nat → Nat → Bool} {N0 : Nat}
variable {Q : Int → St → Prop}
set_option maxRecDepth 100000 in
set_option maxHeartbeats 4000000 in
theorem lb_X12_bestCut_64 (X : Cx p s m meth c args cX12_bestCut 9 (some .int) RX12 D ct L φ N0) {K19 : St → Int → Int → Int → Int → Int → Int → Int → Prop} (hK19 : ∀ (σ : St) (x1 : Int) (x2 : Int) (x3 : Int) (x4 : Int) (x5 : Int) (x6 : Int) (x7 : Int) (H : Heap) (locs : List Loc) (ls : Array Slot), K19 σ x1 x2 x3 x4 x5 x6 x7 → Hs D ct ad L φ N0 s.heap σ H locs → lv_has ls 9 [(0, .ref (ad 12 0)), (1, .int (iv x1)), (2, .int (iv x2)), (3, .int (iv x3)), (4, .int (iv x4)), (5, .int (iv x5)), (6, .int (iv x6)), (7, .int (iv x7))] → W p l e ({ frames := 2, cells := 0, slots := 0, locals := 51 } : Room) s m args below meth c H locs 0 0 (MQ below (Qi D ct ad L φ N0 Q) args s 0 0 (AA N0)) (F0 m 19 ls [])) (σ : St) (x1 : Int) (x2 : Int) (x3 : Int) (x4 : Int) (x5 : Int) (x6 : Int) (x7 : Int) (H : Heap) (locs : List Loc) (ls : Array Slot) (hw : wp_X12_bestCut_64 K19 Q σ x1 x2 x3 x4 x5 x6 x7) (h : Hs D ct ad L φ N0 s.heap σ H locs) (hl : lv_has ls 9 [(0, .ref (ad 12 0)), (1, .int (iv x1)), (2, .int (iv x2)), (3, .int (iv x3)), (4, .int (iv x4)), (5, .int (iv x5)), (6, .int (iv x6)), (7, .int (iv x7))]) : W p l e ({ frames := 2, cells := 0, slots := 0, locals := 51 } : Room) s m args below meth c H locs 0 0 (MQ below (Qi D ct ad L φ N0 Q) args s 0 0 (AA N0)) (F0 m 64 ls []) := by
  have hF := X.2.2.2.2.2.2.2.2.1
  unfold wp_X12_bestCut_64 at hw
  refine j_iinc (kk9 := 7) (lv' := [(7, .int (iv (x7 + 1))), (0, .ref (ad 12 0)), (1, .int (iv x1)), (2, .int (iv x2)), (3, .int (iv x3)), (4, .int (iv x4)), (5, .int (iv x5)), (6, .int (iv x6))]) X dX12_bestCut_64 hl rfl (by decide) rfl (fun ls hl => ?_)
  refine lv_goto (tgt := 19) X.1 X.2.1 dX12_bestCut_67 (by decide) ?_
  exact hK19 σ x1 x2 x3 x4 x5 x6 (x7 + 1) _ _ _ hw h (lv_sub hl [1, 2, 3, 4, 5, 6, 7, 0] rfl)
set_option maxRecDepth 100000 in
set_option maxHeartbeats 4000000 in
theorem lb_X12_bestCut_29 (X : Cx p s m meth c args cX12_bestCut 9 (some .int) RX12 D ct L φ N0) {K64 : St → Int → Int → Int → Int → Int → Int → Int → Prop} (hK64 : ∀ (σ : St) (x1 : Int) (x2 : Int) (x3 : Int) (x4 : Int) (x5 : Int) (x6 : Int) (x7 : Int) (H : Heap) (locs : List Loc) (ls : Array Slot), K64 σ x1 x2 x3 x4 x5 x6 x7 → Hs D ct ad L φ N0 s.heap σ H locs → lv_has ls 9 [(0, .ref (ad 12 0)), (1, .int (iv x1)), (2, .int (iv x2)), (3, .int (iv x3)), (4, .int (iv x4)), (5, .int (iv x5)), (6, .int (iv x6)), (7, .int (iv x7))] → W p l e ({ frames := 2, cells := 0, slots := 0, locals := 51 } : Room) s m args below meth c H locs 0 0 (MQ below (Qi D ct ad L φ N0 Q) args s 0 0 (AA N0)) (F0 m 64 ls [])) : ∀ (n : Nat) (σ : St) (x1 : Int) (x2 : Int) (x3 : Int) (x4 : Int) (x5 : Int) (x6 : Int) (x7 : Int) (x8 : Int) (H : Heap) (locs : List Loc) (ls : Array Slot), wp_X12_bestCut_29 K64 Q n σ x1 x2 x3 x4 x5 x6 x7 x8 → Hs D ct ad L φ N0 s.heap σ H locs → lv_has ls 9 [(0, .ref (ad 12 0)), (1, .int (iv x1)), (2, .int (iv x2)), (3, .int (iv x3)), (4, .int (iv x4)), (5, .int (iv x5)), (6, .int (iv x6)), (7, .int (iv x7)), (8, .int (iv x8))] → W p l e ({ frames := 2, cells := 0, slots := 0, locals := 51 } : Room) s m args below meth c H locs 0 0 (MQ below (Qi D ct ad L φ N0 Q) args s 0 0 (AA N0)) (F0 m 29 ls []) := by
  have hF := X.2.2.2.2.2.2.2.2.1
  intro n
  induction n with
  | zero => intro σ x1 x2 x3 x4 x5 x6 x7 x8 H locs ls hw; exact hw.elim
  | succ n ih =>
    intro σ x1 x2 x3 x4 x5 x6 x7 x8 H locs ls hw h hl
    unfold wp_X12_bestCut_29 at hw
    refine lv_iload X.1 X.2.1 dX12_bestCut_29 (lv_at hl 8 rfl) ?_
    refine lv_iload X.1 X.2.1 dX12_bestCut_31 (lv_at hl 4 rfl) ?_
    obtain ⟨g_1, g_2, hwt, hwf⟩ := hw
    refine j_cmp_gt (tgt := 64) X g_1 g_2 dX12_bestCut_33 (by decide) (fun c_7 => ?_) (fun c_7 => ?_)
    · have hw := hwt c_7
      exact hK64 σ x1 x2 x3 x4 x5 x6 x7 _ _ _ hw h (lv_sub hl [0, 1, 2, 3, 4, 5, 6, 7] rfl)
    · have hw := hwf c_7
      refine lv_iload X.1 X.2.1 dX12_bestCut_36 (lv_at hl 6 rfl) ?_
      refine lv_aload_n X.1 X.2.1 dX12_bestCut_38 rfl (lv_at hl 0 rfl) ?_
      refine lv_iload_n X.1 X.2.1 dX12_bestCut_39 rfl (lv_at hl 1 rfl) ?_
      refine lv_iload_n X.1 X.2.1 dX12_bestCut_40 rfl (lv_at hl 2 rfl) ?_
      refine lv_iload_n X.1 X.2.1 dX12_bestCut_41 rfl (lv_at hl 3 rfl) ?_
      refine lv_iload X.1 X.2.1 dX12_bestCut_42 (lv_at hl 4 rfl) ?_
      refine lv_iload X.1 X.2.1 dX12_bestCut_44 (lv_at hl 5 rfl) ?_
      refine lv_iload X.1 X.2.1 dX12_bestCut_46 (lv_at hl 7 rfl) ?_
      refine lv_iload X.1 X.2.1 dX12_bestCut_48 (lv_at hl 8 rfl) ?_
      refine k_i h (r_V (C := RX12) (ci := 12) (As := [.int (iv x1), .int (iv x2), .int (iv x3), .int (iv x4), .int (iv x5), .int (iv x7), .int (iv x8)]) (rest := [.int (iv x6)]) X h (c_X12_withCut l D ct ad L φ N0 σ x1 x2 x3 x4 x5 x7 x8 _ hw) rfl rfl ⟨Nat.le_of_ble_eq_true rfl, Nat.le_of_ble_eq_true rfl⟩ kw_2406 kw_2408 kw_115 kw_129 kw_2409 ⟨rfl, pd_X12_withCut⟩ (hF.1 12 rfl).1 rfl rfl rfl hl.1 rfl (Nat.le_of_ble_eq_true rfl) ⟨Nat.le_of_ble_eq_true rfl, Nat.le_of_ble_eq_true rfl⟩ dX12_bestCut_50) (fun r_4 σ_3 H locs hw h => ?_)
      refine k_i h (r_S (As := [.int (iv x6), .int (iv r_4)]) (rest := []) X h (c_J9_max_7cf53 l D ct ad L φ N0 σ_3 x6 r_4 _ hw) rfl rfl ⟨Nat.le_of_ble_eq_true rfl, Nat.le_of_ble_eq_true rfl⟩ kw_2320 kw_619 kw_130 kw_620 pd_J9_max_7cf53 rfl hl.1 rfl (Nat.le_of_ble_eq_true rfl) ⟨Nat.le_of_ble_eq_true rfl, Nat.le_of_ble_eq_true rfl⟩ dX12_bestCut_53) (fun r_6 σ_5 H locs hw h => ?_)
      refine lv_istore (lv' := [(6, .int (iv r_6)), (0, .ref (ad 12 0)), (1, .int (iv x1)), (2, .int (iv x2)), (3, .int (iv x3)), (4, .int (iv x4)), (5, .int (iv x5)), (7, .int (iv x7)), (8, .int (iv x8))]) X.1 X.2.1 dX12_bestCut_56 hl (by decide) rfl (fun ls hl => ?_)
      refine j_iinc (kk9 := 8) (lv' := [(8, .int (iv (x8 + 1))), (6, .int (iv r_6)), (0, .ref (ad 12 0)), (1, .int (iv x1)), (2, .int (iv x2)), (3, .int (iv x3)), (4, .int (iv x4)), (5, .int (iv x5)), (7, .int (iv x7))]) X dX12_bestCut_58 hl rfl (by decide) rfl (fun ls hl => ?_)
      refine lv_goto (tgt := 29) X.1 X.2.1 dX12_bestCut_61 (by decide) ?_
      exact ih σ_5 x1 x2 x3 x4 x5 r_6 x7 (x8 + 1) _ _ _ hw h (lv_sub hl [2, 3, 4, 5, 6, 7, 1, 8, 0] rfl)
set_option maxRecDepth 100000 in
set_option maxHeartbeats 4000000 in
theorem lb_X12_bestCut_19 (X : Cx p s m meth c args cX12_bestCut 9 (some .int) RX12 D ct L φ N0) : ∀ (n : Nat) (σ : St) (x1 : Int) (x2 : Int) (x3 : Int) (x4 : Int) (x5 : Int) (x6 : Int) (x7 : Int) (H : Heap) (locs : List Loc) (ls : Array Slot), wp_X12_bestCut_19 Q n σ x1 x2 x3 x4 x5 x6 x7 → Hs D ct ad L φ N0 s.heap σ H locs → lv_has ls 9 [(0, .ref (ad 12 0)), (1, .int (iv x1)), (2, .int (iv x2)), (3, .int (iv x3)), (4, .int (iv x4)), (5, .int (iv x5)), (6, .int (iv x6)), (7, .int (iv x7))] → W p l e ({ frames := 2, cells := 0, slots := 0, locals := 51 } : Room) s m args below meth c H locs 0 0 (MQ below (Qi D ct ad L φ N0 Q) args s 0 0 (AA N0)) (F0 m 19 ls []) := by
  have hF := X.2.2.2.2.2.2.2.2.1
  intro n
  induction n with
  | zero => intro σ x1 x2 x3 x4 x5 x6 x7 H locs ls hw; exact hw.elim
  | succ n ih =>
    intro σ x1 x2 x3 x4 x5 x6 x7 H locs ls hw h hl
    unfold wp_X12_bestCut_19 at hw
    refine lv_iload X.1 X.2.1 dX12_bestCut_19 (lv_at hl 7 rfl) ?_
    refine lv_iload X.1 X.2.1 dX12_bestCut_21 (lv_at hl 5 rfl) ?_
    obtain ⟨g_8, g_9, hwt, hwf⟩ := hw
    refine j_cmp_gt (tgt := 70) X g_8 g_9 dX12_bestCut_23 (by decide) (fun c_10 => ?_) (fun c_10 => ?_)
    · have hw := hwt c_10
      refine lv_iload X.1 X.2.1 dX12_bestCut_70 (lv_at hl 6 rfl) ?_
      exact k_ir X rfl h hw dX12_bestCut_72
    · have hw := hwf c_10
      refine j_iconst X dX12_bestCut_26 ?_
      refine lv_istore (lv' := [(8, .int (iv 0)), (0, .ref (ad 12 0)), (1, .int (iv x1)), (2, .int (iv x2)), (3, .int (iv x3)), (4, .int (iv x4)), (5, .int (iv x5)), (6, .int (iv x6)), (7, .int (iv x7))]) X.1 X.2.1 dX12_bestCut_27 hl (by decide) rfl (fun ls hl => ?_)
      exact hw.elim (fun n29 hw => lb_X12_bestCut_29 X (lb_X12_bestCut_64 X ih) n29 σ x1 x2 x3 x4 x5 x6 x7 0 _ _ _ hw h (lv_sub hl [1, 2, 3, 4, 5, 6, 7, 8, 0] rfl))
theorem pd_X12_bestCut : yX12_bestCut.cls ≠ "java/lang/invoke/MethodHandle" ∧ yX12_bestCut.cls ≠ "java/lang/invoke/VarHandle" ∧ (parseMethodDescriptor yX12_bestCut.desc).map (fun d => d.parameters.length) = some 4 := by decide +kernel
set_option maxRecDepth 100000 in
set_option maxHeartbeats 4000000 in
theorem c_X12_bestCut (l : Launch) (D : va_G) (ct : Nat → ClassId) (ad : Nat → Nat → Nat) (L : List (Nat × Nat)) (φ : Nat → Nat → Nat → Bool) (N0 : Nat) (σ : St) (x1 : Int) (x2 : Int) (x3 : Int) (x4 : Int) (Q : Int → St → Prop) (hw : wp_X12_bestCut σ x1 x2 x3 x4 Q) : Met l yX12_bestCut (.code yX12_bestCut cX12_bestCut 9 (some .int) :: gw) ({ frames := 2, cells := 0, slots := 0, locals := 51 } : Room) (Pm D ct ad L φ N0 σ [.ref (ad 12 0), .int (iv x1), .int (iv x2), .int (iv x3), .int (iv x4)]) (Qi D ct ad L φ N0 Q) 0 0 (AA N0) := by
  refine m_of (by decide) (fun p e s m below meth c X hnm h => ?_)
  have hF := X.2.2.2.2.2.2.2.2.1
  have hl := lv_entry ([.ref (ad 12 0), .int (iv x1), .int (iv x2), .int (iv x3), .int (iv x4)]) (n := 9) (Nat.le_of_ble_eq_true rfl)
  rw [lg_entry_eq]
  generalize (lg_sl ([.ref (ad 12 0), .int (iv x1), .int (iv x2), .int (iv x3), .int (iv x4)]) ++ List.replicate (9 - (lg_sl ([.ref (ad 12 0), .int (iv x1), .int (iv x2), .int (iv x3), .int (iv x4)])).length) Slot.unset).toArray = ls at hl ⊢
  have hl : lv_has ls 9 [(0, .ref (ad 12 0)), (1, .int (iv x1)), (2, .int (iv x2)), (3, .int (iv x3)), (4, .int (iv x4))] := hl
  have h : Hs D ct ad L φ N0 s.heap σ s.heap [] := h
  unfold wp_X12_bestCut at hw
  refine lv_aload_n X.1 X.2.1 dX12_bestCut_0 rfl (lv_at hl 0 rfl) ?_
  refine r_get (ci := 12) X inw_12 h (hF.1 12 rfl).1 rfl rfl 94 (by decide) kw_1732 rfl dX12_bestCut_1 ?_
  refine lv_iload_n X.1 X.2.1 dX12_bestCut_4 rfl (lv_at hl 2 rfl) ?_
  refine j_isub X dX12_bestCut_5 ?_
  refine lv_iload_n X.1 X.2.1 dX12_bestCut_6 rfl (lv_at hl 3 rfl) ?_
  refine j_isub X dX12_bestCut_7 ?_
  refine lv_iload X.1 X.2.1 dX12_bestCut_8 (lv_at hl 4 rfl) ?_
  refine j_isub X dX12_bestCut_10 ?_
  refine j_bind (fun v_11 ev_11 => ?_)
  have hw := hw v_11 ev_11
  refine lv_istore (lv' := [(5, .int (iv v_11)), (0, .ref (ad 12 0)), (1, .int (iv x1)), (2, .int (iv x2)), (3, .int (iv x3)), (4, .int (iv x4))]) X.1 X.2.1 dX12_bestCut_11 hl (by decide) rfl (fun ls hl => ?_)
  refine j_iconst X dX12_bestCut_13 ?_
  refine lv_istore (lv' := [(6, .int (iv (-1))), (5, .int (iv v_11)), (0, .ref (ad 12 0)), (1, .int (iv x1)), (2, .int (iv x2)), (3, .int (iv x3)), (4, .int (iv x4))]) X.1 X.2.1 dX12_bestCut_14 hl (by decide) rfl (fun ls hl => ?_)
  refine j_iconst X dX12_bestCut_16 ?_
  refine lv_istore (lv' := [(7, .int (iv 0)), (6, .int (iv (-1))), (5, .int (iv v_11)), (0, .ref (ad 12 0)), (1, .int (iv x1)), (2, .int (iv x2)), (3, .int (iv x3)), (4, .int (iv x4))]) X.1 X.2.1 dX12_bestCut_17 hl (by decide) rfl (fun ls hl => ?_)
  exact hw.elim (fun n19 hw => lb_X12_bestCut_19 X n19 σ x1 x2 x3 x4 v_11 (-1) 0 _ _ _ hw h (lv_sub hl [3, 4, 5, 6, 7, 2, 1, 0] rfl))
end
section
variable {p : Program} {l : Launch} {e : Env} {s : State} {m : MethodId} {args : Array Value} {below : List Frame} {meth : Method} {c : Code} {D : va_G} {ct : Nat → ClassId} {ad : Nat → Nat → Nat} {L : List (Nat × Nat)} {φ : Nat → Nat → Nat → Bool} {N0 : Nat}
variable {Q : St → Prop}
set_option maxRecDepth 100000 in
set_option maxHeartbeats 4000000 in
theorem lb_X12_plansCuts_187 (X : Cx p s m meth c args cX12_plansCuts 6 none RX12 D ct L φ N0) {K95 : St → Int → Prop} (hK95 : ∀ (σ : St) (x2 : Int) (H : Heap) (locs : List Loc) (ls : Array Slot), K95 σ x2 → Hs D ct ad L φ N0 s.heap σ H locs → lv_has ls 6 [(0, .ref (ad 12 0)), (2, .int (iv x2))] → W p l e ({ frames := 3, cells := 0, slots := 0, locals := 79 } : Room) s m args below meth c H locs 0 0 (MQ below (Qv D ct ad L φ N0 Q) args s 0 0 (AA N0)) (F0 m 95 ls [])) (σ : St) (x2 : Int) (H : Heap) (locs : List Loc) (ls : Array Slot) (hw : wp_X12_plansCuts_187 K95 Q σ x2) (h : Hs D ct ad L φ N0 s.heap σ H locs) (hl : lv_has ls 6 [(0, .ref (ad 12 0)), (2, .int (iv x2))]) : W p l e ({ frames := 3, cells := 0, slots := 0, locals := 79 } : Room) s m args below meth c H locs 0 0 (MQ below (Qv D ct ad L φ N0 Q) args s 0 0 (AA N0)) (F0 m 187 ls []) := by
  have hF := X.2.2.2.2.2.2.2.2.1
  unfold wp_X12_plansCuts_187 at hw
  refine j_iinc (kk9 := 1) (lv' := [(2, .int (iv (x2 + (-1)))), (0, .ref (ad 12 0))]) X dX12_plansCuts_187 hl rfl (by decide) rfl (fun ls hl => ?_)
  refine lv_goto (tgt := 95) X.1 X.2.1 dX12_plansCuts_190 (by decide) ?_
  exact hK95 σ (x2 + (-1)) _ _ _ hw h (lv_sub hl [1, 0] rfl)
set_option maxRecDepth 100000 in
set_option maxHeartbeats 4000000 in
theorem lb_X12_plansCuts_181 (X : Cx p s m meth c args cX12_plansCuts 6 none RX12 D ct L φ N0) {K101 : St → Int → Int → Prop} {K187 : St → Int → Prop} (hK101 : ∀ (σ : St) (x2 : Int) (x3 : Int) (H : Heap) (locs : List Loc) (ls : Array Slot), K101 σ x2 x3 → Hs D ct ad L φ N0 s.heap σ H locs → lv_has ls 6 [(0, .ref (ad 12 0)), (2, .int (iv x2)), (3, .int (iv x3))] → W p l e ({ frames := 3, cells := 0, slots := 0, locals := 79 } : Room) s m args below meth c H locs 0 0 (MQ below (Qv D ct ad L φ N0 Q) args s 0 0 (AA N0)) (F0 m 101 ls [])) (hK187 : ∀ (σ : St) (x2 : Int) (H : Heap) (locs : List Loc) (ls : Array Slot), K187 σ x2 → Hs D ct ad L φ N0 s.heap σ H locs → lv_has ls 6 [(0, .ref (ad 12 0)), (2, .int (iv x2))] → W p l e ({ frames := 3, cells := 0, slots := 0, locals := 79 } : Room) s m args below meth c H locs 0 0 (MQ below (Qv D ct ad L φ N0 Q) args s 0 0 (AA N0)) (F0 m 187 ls [])) (σ : St) (x2 : Int) (x3 : Int) (H : Heap) (locs : List Loc) (ls : Array Slot) (hw : wp_X12_plansCuts_181 K101 K187 Q σ x2 x3) (h : Hs D ct ad L φ N0 s.heap σ H locs) (hl : lv_has ls 6 [(0, .ref (ad 12 0)), (2, .int (iv x2)), (3, .int (iv x3))]) : W p l e ({ frames := 3, cells := 0, slots := 0, locals := 79 } : Room) s m args below meth c H locs 0 0 (MQ below (Qv D ct ad L φ N0 Q) args s 0 0 (AA N0)) (F0 m 181 ls []) := by
  have hF := X.2.2.2.2.2.2.2.2.1
  unfold wp_X12_plansCuts_181 at hw
  refine j_iinc (kk9 := 2) (lv' := [(3, .int (iv (x3 + 1))), (0, .ref (ad 12 0)), (2, .int (iv x2))]) X dX12_plansCuts_181 hl rfl (by decide) rfl (fun ls hl => ?_)
  refine lv_goto (tgt := 101) X.1 X.2.1 dX12_plansCuts_184 (by decide) ?_
  exact hK101 σ x2 (x3 + 1) _ _ _ hw h (lv_sub hl [1, 2, 0] rfl)
set_option maxRecDepth 100000 in
set_option maxHeartbeats 4000000 in
theorem lb_X12_plansCuts_175 (X : Cx p s m meth c args cX12_plansCuts 6 none RX12 D ct L φ N0) {K112 : St → Int → Int → Int → Prop} {K181 : St → Int → Int → Prop} (hK112 : ∀ (σ : St) (x2 : Int) (x3 : Int) (x4 : Int) (H : Heap) (locs : List Loc) (ls : Array Slot), K112 σ x2 x3 x4 → Hs D ct ad L φ N0 s.heap σ H locs → lv_has ls 6 [(0, .ref (ad 12 0)), (2, .int (iv x2)), (3, .int (iv x3)), (4, .int (iv x4))] → W p l e ({ frames := 3, cells := 0, slots := 0, locals := 79 } : Room) s m args below meth c H locs 0 0 (MQ below (Qv D ct ad L φ N0 Q) args s 0 0 (AA N0)) (F0 m 112 ls [])) (hK181 : ∀ (σ : St) (x2 : Int) (x3 : Int) (H : Heap) (locs : List Loc) (ls : Array Slot), K181 σ x2 x3 → Hs D ct ad L φ N0 s.heap σ H locs → lv_has ls 6 [(0, .ref (ad 12 0)), (2, .int (iv x2)), (3, .int (iv x3))] → W p l e ({ frames := 3, cells := 0, slots := 0, locals := 79 } : Room) s m args below meth c H locs 0 0 (MQ below (Qv D ct ad L φ N0 Q) args s 0 0 (AA N0)) (F0 m 181 ls [])) (σ : St) (x2 : Int) (x3 : Int) (x4 : Int) (H : Heap) (locs : List Loc) (ls : Array Slot) (hw : wp_X12_plansCuts_175 K112 K181 Q σ x2 x3 x4) (h : Hs D ct ad L φ N0 s.heap σ H locs) (hl : lv_has ls 6 [(0, .ref (ad 12 0)), (2, .int (iv x2)), (3, .int (iv x3)), (4, .int (iv x4))]) : W p l e ({ frames := 3, cells := 0, slots := 0, locals := 79 } : Room) s m args below meth c H locs 0 0 (MQ below (Qv D ct ad L φ N0 Q) args s 0 0 (AA N0)) (F0 m 175 ls []) := by
  have hF := X.2.2.2.2.2.2.2.2.1
  unfold wp_X12_plansCuts_175 at hw
  refine j_iinc (kk9 := 3) (lv' := [(4, .int (iv (x4 + 1))), (0, .ref (ad 12 0)), (2, .int (iv x2)), (3, .int (iv x3))]) X dX12_plansCuts_175 hl rfl (by decide) rfl (fun ls hl => ?_)
  refine lv_goto (tgt := 112) X.1 X.2.1 dX12_plansCuts_178 (by decide) ?_
  exact hK112 σ x2 x3 (x4 + 1) _ _ _ hw h (lv_sub hl [1, 2, 3, 0] rfl)
set_option maxRecDepth 100000 in
set_option maxHeartbeats 4000000 in
theorem lb_X12_plansCuts_126 (X : Cx p s m meth c args cX12_plansCuts 6 none RX12 D ct L φ N0) {K175 : St → Int → Int → Int → Prop} (hK175 : ∀ (σ : St) (x2 : Int) (x3 : Int) (x4 : Int) (H : Heap) (locs : List Loc) (ls : Array Slot), K175 σ x2 x3 x4 → Hs D ct ad L φ N0 s.heap σ H locs → lv_has ls 6 [(0, .ref (ad 12 0)), (2, .int (iv x2)), (3, .int (iv x3)), (4, .int (iv x4))] → W p l e ({ frames := 3, cells := 0, slots := 0, locals := 79 } : Room) s m args below meth c H locs 0 0 (MQ below (Qv D ct ad L φ N0 Q) args s 0 0 (AA N0)) (F0 m 175 ls [])) : ∀ (n : Nat) (σ : St) (x2 : Int) (x3 : Int) (x4 : Int) (x5 : Int) (H : Heap) (locs : List Loc) (ls : Array Slot), wp_X12_plansCuts_126 K175 Q n σ x2 x3 x4 x5 → Hs D ct ad L φ N0 s.heap σ H locs → lv_has ls 6 [(0, .ref (ad 12 0)), (2, .int (iv x2)), (3, .int (iv x3)), (4, .int (iv x4)), (5, .int (iv x5))] → W p l e ({ frames := 3, cells := 0, slots := 0, locals := 79 } : Room) s m args below meth c H locs 0 0 (MQ below (Qv D ct ad L φ N0 Q) args s 0 0 (AA N0)) (F0 m 126 ls []) := by
  have hF := X.2.2.2.2.2.2.2.2.1
  intro n
  induction n with
  | zero => intro σ x2 x3 x4 x5 H locs ls hw; exact hw.elim
  | succ n ih =>
    intro σ x2 x3 x4 x5 H locs ls hw h hl
    unfold wp_X12_plansCuts_126 at hw
    refine lv_iload_n X.1 X.2.1 dX12_plansCuts_126 rfl (lv_at hl 2 rfl) ?_
    refine lv_iload X.1 X.2.1 dX12_plansCuts_127 (lv_at hl 3 rfl) ?_
    refine j_iadd X dX12_plansCuts_129 ?_
    refine lv_iload X.1 X.2.1 dX12_plansCuts_130 (lv_at hl 4 rfl) ?_
    refine j_iadd X dX12_plansCuts_132 ?_
    refine lv_aload_n X.1 X.2.1 dX12_plansCuts_133 rfl (lv_at hl 0 rfl) ?_
    refine r_get (ci := 12) X inw_12 h (hF.1 12 rfl).1 rfl rfl 94 (by decide) kw_1732 rfl dX12_plansCuts_134 ?_
    obtain ⟨g_1, g_2, hwt, hwf⟩ := hw
    refine j_cmp_gt (tgt := 175) X g_1 g_2 dX12_plansCuts_137 (by decide) (fun c_10 => ?_) (fun c_10 => ?_)
    · have hw := hwt c_10
      exact hK175 σ x2 x3 x4 _ _ _ hw h (lv_sub hl [0, 1, 2, 3] rfl)
    · have hw := hwf c_10
      refine lv_aload_n X.1 X.2.1 dX12_plansCuts_140 rfl (lv_at hl 0 rfl) ?_
      refine r_getR (ci := 12) X inw_12 h (hF.1 12 rfl).1 rfl rfl 90 (by decide) kw_1728 rfl ((hF.1 12 rfl).2 90) dX12_plansCuts_141 ?_
      refine j_sipush X dX12_plansCuts_144 (by decide) ?_
      refine lv_iload_n X.1 X.2.1 dX12_plansCuts_147 rfl (lv_at hl 1 rfl) ?_
      refine j_imul X dX12_plansCuts_148 ?_
      refine lv_iload_n X.1 X.2.1 dX12_plansCuts_149 rfl (lv_at hl 2 rfl) ?_
      refine lv_iload X.1 X.2.1 dX12_plansCuts_150 (lv_at hl 3 rfl) ?_
      refine lv_iload X.1 X.2.1 dX12_plansCuts_152 (lv_at hl 4 rfl) ?_
      refine k_i h (r_S (As := [.int (iv x3), .int (iv x4), .int (iv x5)]) (rest := [.int (iv (2197 * x2)), .ref (ad 149 0)]) X h (c_X12_stateOf l D ct ad L φ N0 σ x3 x4 x5 _ hw) rfl rfl ⟨Nat.le_of_ble_eq_true rfl, Nat.le_of_ble_eq_true rfl⟩ kw_2399 kw_2400 kw_129 kw_2401 pd_X12_stateOf rfl hl.1 rfl (Nat.le_of_ble_eq_true rfl) ⟨Nat.le_of_ble_eq_true rfl, Nat.le_of_ble_eq_true rfl⟩ dX12_plansCuts_154) (fun r_4 σ_3 H locs hw h => ?_)
      refine j_iadd X dX12_plansCuts_157 ?_
      refine lv_aload_n X.1 X.2.1 dX12_plansCuts_158 rfl (lv_at hl 0 rfl) ?_
      refine lv_iload_n X.1 X.2.1 dX12_plansCuts_159 rfl (lv_at hl 1 rfl) ?_
      refine lv_iload_n X.1 X.2.1 dX12_plansCuts_160 rfl (lv_at hl 2 rfl) ?_
      refine lv_iload X.1 X.2.1 dX12_plansCuts_161 (lv_at hl 3 rfl) ?_
      refine lv_iload X.1 X.2.1 dX12_plansCuts_163 (lv_at hl 4 rfl) ?_
      refine k_i h (r_V (C := RX12) (ci := 12) (As := [.int (iv x2), .int (iv x3), .int (iv x4), .int (iv x5)]) (rest := [.int (iv ((2197 * x2) + r_4)), .ref (ad 149 0)]) X h (c_X12_bestCut l D ct ad L φ N0 σ_3 x2 x3 x4 x5 _ hw) rfl rfl ⟨Nat.le_of_ble_eq_true rfl, Nat.le_of_ble_eq_true rfl⟩ kw_2402 kw_2404 kw_114 kw_129 kw_2405 ⟨rfl, pd_X12_bestCut⟩ (hF.1 12 rfl).1 rfl rfl rfl hl.1 rfl (Nat.le_of_ble_eq_true rfl) ⟨Nat.le_of_ble_eq_true rfl, Nat.le_of_ble_eq_true rfl⟩ dX12_plansCuts_165) (fun r_6 σ_5 H locs hw h => ?_)
      obtain ⟨g_7, g_8, hw⟩ := hw
      refine r_iast (n := 19773) X h (hF.1 149 rfl).1 (fun _ => rfl) (by decide) g_7 g_8 rfl dX12_plansCuts_168 (fun H locs h => ?_)
      obtain ⟨σ_9, eσ_9⟩ : ∃ z : St, z = st σ_5 149 0 (Int.toNat ((2197 * x2) + r_4)) r_6 := ⟨_, rfl⟩
      rw [← eσ_9] at h
      have hw := hw σ_9 eσ_9
      refine j_iinc (kk9 := 4) (lv' := [(5, .int (iv (x5 + 1))), (0, .ref (ad 12 0)), (2, .int (iv x2)), (3, .int (iv x3)), (4, .int (iv x4))]) X dX12_plansCuts_169 hl rfl (by decide) rfl (fun ls hl => ?_)
      refine lv_goto (tgt := 126) X.1 X.2.1 dX12_plansCuts_172 (by decide) ?_
      exact ih σ_9 x2 x3 x4 (x5 + 1) _ _ _ hw h (lv_sub hl [1, 2, 3, 4, 0] rfl)
set_option maxRecDepth 100000 in
set_option maxHeartbeats 4000000 in
theorem lb_X12_plansCuts_112 (X : Cx p s m meth c args cX12_plansCuts 6 none RX12 D ct L φ N0) {K181 : St → Int → Int → Prop} (hK181 : ∀ (σ : St) (x2 : Int) (x3 : Int) (H : Heap) (locs : List Loc) (ls : Array Slot), K181 σ x2 x3 → Hs D ct ad L φ N0 s.heap σ H locs → lv_has ls 6 [(0, .ref (ad 12 0)), (2, .int (iv x2)), (3, .int (iv x3))] → W p l e ({ frames := 3, cells := 0, slots := 0, locals := 79 } : Room) s m args below meth c H locs 0 0 (MQ below (Qv D ct ad L φ N0 Q) args s 0 0 (AA N0)) (F0 m 181 ls [])) : ∀ (n : Nat) (σ : St) (x2 : Int) (x3 : Int) (x4 : Int) (H : Heap) (locs : List Loc) (ls : Array Slot), wp_X12_plansCuts_112 K181 Q n σ x2 x3 x4 → Hs D ct ad L φ N0 s.heap σ H locs → lv_has ls 6 [(0, .ref (ad 12 0)), (2, .int (iv x2)), (3, .int (iv x3)), (4, .int (iv x4))] → W p l e ({ frames := 3, cells := 0, slots := 0, locals := 79 } : Room) s m args below meth c H locs 0 0 (MQ below (Qv D ct ad L φ N0 Q) args s 0 0 (AA N0)) (F0 m 112 ls []) := by
  have hF := X.2.2.2.2.2.2.2.2.1
  intro n
  induction n with
  | zero => intro σ x2 x3 x4 H locs ls hw; exact hw.elim
  | succ n ih =>
    intro σ x2 x3 x4 H locs ls hw h hl
    unfold wp_X12_plansCuts_112 at hw
    refine lv_iload_n X.1 X.2.1 dX12_plansCuts_112 rfl (lv_at hl 2 rfl) ?_
    refine lv_iload X.1 X.2.1 dX12_plansCuts_113 (lv_at hl 3 rfl) ?_
    refine j_iadd X dX12_plansCuts_115 ?_
    refine lv_aload_n X.1 X.2.1 dX12_plansCuts_116 rfl (lv_at hl 0 rfl) ?_
    refine r_get (ci := 12) X inw_12 h (hF.1 12 rfl).1 rfl rfl 94 (by decide) kw_1732 rfl dX12_plansCuts_117 ?_
    obtain ⟨g_11, g_12, hwt, hwf⟩ := hw
    refine j_cmp_gt (tgt := 181) X g_11 g_12 dX12_plansCuts_120 (by decide) (fun c_13 => ?_) (fun c_13 => ?_)
    · have hw := hwt c_13
      exact hK181 σ x2 x3 _ _ _ hw h (lv_sub hl [0, 1, 2] rfl)
    · have hw := hwf c_13
      refine j_iconst X dX12_plansCuts_123 ?_
      refine lv_istore (lv' := [(5, .int (iv 0)), (0, .ref (ad 12 0)), (2, .int (iv x2)), (3, .int (iv x3)), (4, .int (iv x4))]) X.1 X.2.1 dX12_plansCuts_124 hl (by decide) rfl (fun ls hl => ?_)
      exact hw.elim (fun n126 hw => lb_X12_plansCuts_126 X (lb_X12_plansCuts_175 X ih hK181) n126 σ x2 x3 x4 0 _ _ _ hw h (lv_sub hl [1, 2, 3, 4, 0] rfl))
set_option maxRecDepth 100000 in
set_option maxHeartbeats 4000000 in
theorem lb_X12_plansCuts_101 (X : Cx p s m meth c args cX12_plansCuts 6 none RX12 D ct L φ N0) {K187 : St → Int → Prop} (hK187 : ∀ (σ : St) (x2 : Int) (H : Heap) (locs : List Loc) (ls : Array Slot), K187 σ x2 → Hs D ct ad L φ N0 s.heap σ H locs → lv_has ls 6 [(0, .ref (ad 12 0)), (2, .int (iv x2))] → W p l e ({ frames := 3, cells := 0, slots := 0, locals := 79 } : Room) s m args below meth c H locs 0 0 (MQ below (Qv D ct ad L φ N0 Q) args s 0 0 (AA N0)) (F0 m 187 ls [])) : ∀ (n : Nat) (σ : St) (x2 : Int) (x3 : Int) (H : Heap) (locs : List Loc) (ls : Array Slot), wp_X12_plansCuts_101 K187 Q n σ x2 x3 → Hs D ct ad L φ N0 s.heap σ H locs → lv_has ls 6 [(0, .ref (ad 12 0)), (2, .int (iv x2)), (3, .int (iv x3))] → W p l e ({ frames := 3, cells := 0, slots := 0, locals := 79 } : Room) s m args below meth c H locs 0 0 (MQ below (Qv D ct ad L φ N0 Q) args s 0 0 (AA N0)) (F0 m 101 ls []) := by
  have hF := X.2.2.2.2.2.2.2.2.1
  intro n
  induction n with
  | zero => intro σ x2 x3 H locs ls hw; exact hw.elim
  | succ n ih =>
    intro σ x2 x3 H locs ls hw h hl
    unfold wp_X12_plansCuts_101 at hw
    refine lv_iload_n X.1 X.2.1 dX12_plansCuts_101 rfl (lv_at hl 2 rfl) ?_
    refine lv_aload_n X.1 X.2.1 dX12_plansCuts_102 rfl (lv_at hl 0 rfl) ?_
    refine r_get (ci := 12) X inw_12 h (hF.1 12 rfl).1 rfl rfl 94 (by decide) kw_1732 rfl dX12_plansCuts_103 ?_
    obtain ⟨g_14, g_15, hwt, hwf⟩ := hw
    refine j_cmp_gt (tgt := 187) X g_14 g_15 dX12_plansCuts_106 (by decide) (fun c_16 => ?_) (fun c_16 => ?_)
    · have hw := hwt c_16
      exact hK187 σ x2 _ _ _ hw h (lv_sub hl [0, 1] rfl)
    · have hw := hwf c_16
      refine j_iconst X dX12_plansCuts_109 ?_
      refine lv_istore (lv' := [(4, .int (iv 0)), (0, .ref (ad 12 0)), (2, .int (iv x2)), (3, .int (iv x3))]) X.1 X.2.1 dX12_plansCuts_110 hl (by decide) rfl (fun ls hl => ?_)
      exact hw.elim (fun n112 hw => lb_X12_plansCuts_112 X (lb_X12_plansCuts_181 X ih hK187) n112 σ x2 x3 0 _ _ _ hw h (lv_sub hl [1, 2, 3, 0] rfl))
set_option maxRecDepth 100000 in
set_option maxHeartbeats 4000000 in
theorem lb_X12_plansCuts_95 (X : Cx p s m meth c args cX12_plansCuts 6 none RX12 D ct L φ N0) : ∀ (n : Nat) (σ : St) (x2 : Int) (H : Heap) (locs : List Loc) (ls : Array Slot), wp_X12_plansCuts_95 Q n σ x2 → Hs D ct ad L φ N0 s.heap σ H locs → lv_has ls 6 [(0, .ref (ad 12 0)), (2, .int (iv x2))] → W p l e ({ frames := 3, cells := 0, slots := 0, locals := 79 } : Room) s m args below meth c H locs 0 0 (MQ below (Qv D ct ad L φ N0 Q) args s 0 0 (AA N0)) (F0 m 95 ls []) := by
  have hF := X.2.2.2.2.2.2.2.2.1
  intro n
  induction n with
  | zero => intro σ x2 H locs ls hw; exact hw.elim
  | succ n ih =>
    intro σ x2 H locs ls hw h hl
    unfold wp_X12_plansCuts_95 at hw
    refine lv_iload_n X.1 X.2.1 dX12_plansCuts_95 rfl (lv_at hl 1 rfl) ?_
    obtain ⟨g_17, hwt, hwf⟩ := hw
    refine j_if_lt (tgt := 193) X g_17 dX12_plansCuts_96 (by decide) (fun c_18 => ?_) (fun c_18 => ?_)
    · have hw := hwt c_18
      exact k_vr X h hw dX12_plansCuts_193
    · have hw := hwf c_18
      refine j_iconst X dX12_plansCuts_99 ?_
      refine lv_istore_n (lv' := [(3, .int (iv 0)), (0, .ref (ad 12 0)), (2, .int (iv x2))]) X.1 X.2.1 dX12_plansCuts_100 rfl hl (by decide) rfl (fun ls hl => ?_)
      exact hw.elim (fun n101 hw => lb_X12_plansCuts_101 X (lb_X12_plansCuts_187 X ih) n101 σ x2 0 _ _ _ hw h (lv_sub hl [1, 2, 0] rfl))
set_option maxRecDepth 100000 in
set_option maxHeartbeats 4000000 in
theorem lb_X12_plansCuts_92 (X : Cx p s m meth c args cX12_plansCuts 6 none RX12 D ct L φ N0) (σ : St) (H : Heap) (locs : List Loc) (ls : Array Slot) (hw : wp_X12_plansCuts_92 Q σ) (h : Hs D ct ad L φ N0 s.heap σ H locs) (hl : lv_has ls 6 [(0, .ref (ad 12 0))]) : W p l e ({ frames := 3, cells := 0, slots := 0, locals := 79 } : Room) s m args below meth c H locs 0 0 (MQ below (Qv D ct ad L φ N0 Q) args s 0 0 (AA N0)) (F0 m 92 ls []) := by
  have hF := X.2.2.2.2.2.2.2.2.1
  unfold wp_X12_plansCuts_92 at hw
  refine j_bipush X dX12_plansCuts_92 (by decide) ?_
  refine lv_istore_n (lv' := [(2, .int (iv 7)), (0, .ref (ad 12 0))]) X.1 X.2.1 dX12_plansCuts_94 rfl hl (by decide) rfl (fun ls hl => ?_)
  exact hw.elim (fun n95 hw => lb_X12_plansCuts_95 X n95 σ 7 _ _ _ hw h (lv_sub hl [1, 0] rfl))
set_option maxRecDepth 100000 in
set_option maxHeartbeats 4000000 in
theorem lb_X12_plansCuts_86 (X : Cx p s m meth c args cX12_plansCuts 6 none RX12 D ct L φ N0) {K2 : St → Int → Int → Prop} {K92 : St → Prop} (hK2 : ∀ (σ : St) (x1 : Int) (x2 : Int) (H : Heap) (locs : List Loc) (ls : Array Slot), K2 σ x1 x2 → Hs D ct ad L φ N0 s.heap σ H locs → lv_has ls 6 [(0, .ref (ad 12 0)), (1, .int (iv x1)), (2, .int (iv x2))] → W p l e ({ frames := 3, cells := 0, slots := 0, locals := 79 } : Room) s m args below meth c H locs 0 0 (MQ below (Qv D ct ad L φ N0 Q) args s 0 0 (AA N0)) (F0 m 2 ls [])) (hK92 : ∀ (σ : St) (H : Heap) (locs : List Loc) (ls : Array Slot), K92 σ → Hs D ct ad L φ N0 s.heap σ H locs → lv_has ls 6 [(0, .ref (ad 12 0))] → W p l e ({ frames := 3, cells := 0, slots := 0, locals := 79 } : Room) s m args below meth c H locs 0 0 (MQ below (Qv D ct ad L φ N0 Q) args s 0 0 (AA N0)) (F0 m 92 ls [])) (σ : St) (x1 : Int) (x2 : Int) (H : Heap) (locs : List Loc) (ls : Array Slot) (hw : wp_X12_plansCuts_86 K2 K92 Q σ x1 x2) (h : Hs D ct ad L φ N0 s.heap σ H locs) (hl : lv_has ls 6 [(0, .ref (ad 12 0)), (1, .int (iv x1)), (2, .int (iv x2))]) : W p l e ({ frames := 3, cells := 0, slots := 0, locals := 79 } : Room) s m args below meth c H locs 0 0 (MQ below (Qv D ct ad L φ N0 Q) args s 0 0 (AA N0)) (F0 m 86 ls []) := by
  have hF := X.2.2.2.2.2.2.2.2.1
  unfold wp_X12_plansCuts_86 at hw
  refine j_iinc (kk9 := 2) (lv' := [(2, .int (iv (x2 + 1))), (0, .ref (ad 12 0)), (1, .int (iv x1))]) X dX12_plansCuts_86 hl rfl (by decide) rfl (fun ls hl => ?_)
  refine lv_goto (tgt := 2) X.1 X.2.1 dX12_plansCuts_89 (by decide) ?_
  exact hK2 σ x1 (x2 + 1) _ _ _ hw h (lv_sub hl [1, 2, 0] rfl)
set_option maxRecDepth 100000 in
set_option maxHeartbeats 4000000 in
theorem lb_X12_plansCuts_80 (X : Cx p s m meth c args cX12_plansCuts 6 none RX12 D ct L φ N0) {K12 : St → Int → Int → Int → Prop} {K86 : St → Int → Int → Prop} (hK12 : ∀ (σ : St) (x1 : Int) (x2 : Int) (x3 : Int) (H : Heap) (locs : List Loc) (ls : Array Slot), K12 σ x1 x2 x3 → Hs D ct ad L φ N0 s.heap σ H locs → lv_has ls 6 [(0, .ref (ad 12 0)), (1, .int (iv x1)), (2, .int (iv x2)), (3, .int (iv x3))] → W p l e ({ frames := 3, cells := 0, slots := 0, locals := 79 } : Room) s m args below meth c H locs 0 0 (MQ below (Qv D ct ad L φ N0 Q) args s 0 0 (AA N0)) (F0 m 12 ls [])) (hK86 : ∀ (σ : St) (x1 : Int) (x2 : Int) (H : Heap) (locs : List Loc) (ls : Array Slot), K86 σ x1 x2 → Hs D ct ad L φ N0 s.heap σ H locs → lv_has ls 6 [(0, .ref (ad 12 0)), (1, .int (iv x1)), (2, .int (iv x2))] → W p l e ({ frames := 3, cells := 0, slots := 0, locals := 79 } : Room) s m args below meth c H locs 0 0 (MQ below (Qv D ct ad L φ N0 Q) args s 0 0 (AA N0)) (F0 m 86 ls [])) (σ : St) (x1 : Int) (x2 : Int) (x3 : Int) (H : Heap) (locs : List Loc) (ls : Array Slot) (hw : wp_X12_plansCuts_80 K12 K86 Q σ x1 x2 x3) (h : Hs D ct ad L φ N0 s.heap σ H locs) (hl : lv_has ls 6 [(0, .ref (ad 12 0)), (1, .int (iv x1)), (2, .int (iv x2)), (3, .int (iv x3))]) : W p l e ({ frames := 3, cells := 0, slots := 0, locals := 79 } : Room) s m args below meth c H locs 0 0 (MQ below (Qv D ct ad L φ N0 Q) args s 0 0 (AA N0)) (F0 m 80 ls []) := by
  have hF := X.2.2.2.2.2.2.2.2.1
  unfold wp_X12_plansCuts_80 at hw
  refine j_iinc (kk9 := 3) (lv' := [(3, .int (iv (x3 + 1))), (0, .ref (ad 12 0)), (1, .int (iv x1)), (2, .int (iv x2))]) X dX12_plansCuts_80 hl rfl (by decide) rfl (fun ls hl => ?_)
  refine lv_goto (tgt := 12) X.1 X.2.1 dX12_plansCuts_83 (by decide) ?_
  exact hK12 σ x1 x2 (x3 + 1) _ _ _ hw h (lv_sub hl [1, 2, 3, 0] rfl)
set_option maxRecDepth 100000 in
set_option maxHeartbeats 4000000 in
theorem lb_X12_plansCuts_73 (X : Cx p s m meth c args cX12_plansCuts 6 none RX12 D ct L φ N0) {K25 : St → Int → Int → Int → Int → Prop} {K80 : St → Int → Int → Int → Prop} (hK25 : ∀ (σ : St) (x1 : Int) (x2 : Int) (x3 : Int) (x4 : Int) (H : Heap) (locs : List Loc) (ls : Array Slot), K25 σ x1 x2 x3 x4 → Hs D ct ad L φ N0 s.heap σ H locs → lv_has ls 6 [(0, .ref (ad 12 0)), (1, .int (iv x1)), (2, .int (iv x2)), (3, .int (iv x3)), (4, .int (iv x4))] → W p l e ({ frames := 3, cells := 0, slots := 0, locals := 79 } : Room) s m args below meth c H locs 0 0 (MQ below (Qv D ct ad L φ N0 Q) args s 0 0 (AA N0)) (F0 m 25 ls [])) (hK80 : ∀ (σ : St) (x1 : Int) (x2 : Int) (x3 : Int) (H : Heap) (locs : List Loc) (ls : Array Slot), K80 σ x1 x2 x3 → Hs D ct ad L φ N0 s.heap σ H locs → lv_has ls 6 [(0, .ref (ad 12 0)), (1, .int (iv x1)), (2, .int (iv x2)), (3, .int (iv x3))] → W p l e ({ frames := 3, cells := 0, slots := 0, locals := 79 } : Room) s m args below meth c H locs 0 0 (MQ below (Qv D ct ad L φ N0 Q) args s 0 0 (AA N0)) (F0 m 80 ls [])) (σ : St) (x1 : Int) (x2 : Int) (x3 : Int) (x4 : Int) (y0 : Int) (y1 : Int) (H : Heap) (locs : List Loc) (ls : Array Slot) (hw : wp_X12_plansCuts_73 K25 K80 Q σ x1 x2 x3 x4 y0 y1) (h : Hs D ct ad L φ N0 s.heap σ H locs) (hl : lv_has ls 6 [(0, .ref (ad 12 0)), (1, .int (iv x1)), (2, .int (iv x2)), (3, .int (iv x3)), (4, .int (iv x4))]) : W p l e ({ frames := 3, cells := 0, slots := 0, locals := 79 } : Room) s m args below meth c H locs 0 0 (MQ below (Qv D ct ad L φ N0 Q) args s 0 0 (AA N0)) (F0 m 73 ls [.int (iv y0), .int (iv y1), .ref (ad 149 0)]) := by
  have hF := X.2.2.2.2.2.2.2.2.1
  unfold wp_X12_plansCuts_73 at hw
  obtain ⟨g_19, g_20, hw⟩ := hw
  refine r_iast (n := 19773) X h (hF.1 149 rfl).1 (fun _ => rfl) (by decide) g_19 g_20 rfl dX12_plansCuts_73 (fun H locs h => ?_)
  obtain ⟨σ_21, eσ_21⟩ : ∃ z : St, z = st σ 149 0 (Int.toNat y1) y0 := ⟨_, rfl⟩
  rw [← eσ_21] at h
  have hw := hw σ_21 eσ_21
  refine j_iinc (kk9 := 4) (lv' := [(4, .int (iv (x4 + 1))), (0, .ref (ad 12 0)), (1, .int (iv x1)), (2, .int (iv x2)), (3, .int (iv x3))]) X dX12_plansCuts_74 hl rfl (by decide) rfl (fun ls hl => ?_)
  refine lv_goto (tgt := 25) X.1 X.2.1 dX12_plansCuts_77 (by decide) ?_
  exact hK25 σ_21 x1 x2 x3 (x4 + 1) _ _ _ hw h (lv_sub hl [1, 2, 3, 4, 0] rfl)
set_option maxRecDepth 100000 in
set_option maxHeartbeats 4000000 in
theorem lb_X12_plansCuts_25 (X : Cx p s m meth c args cX12_plansCuts 6 none RX12 D ct L φ N0) {K80 : St → Int → Int → Int → Prop} (hK80 : ∀ (σ : St) (x1 : Int) (x2 : Int) (x3 : Int) (H : Heap) (locs : List Loc) (ls : Array Slot), K80 σ x1 x2 x3 → Hs D ct ad L φ N0 s.heap σ H locs → lv_has ls 6 [(0, .ref (ad 12 0)), (1, .int (iv x1)), (2, .int (iv x2)), (3, .int (iv x3))] → W p l e ({ frames := 3, cells := 0, slots := 0, locals := 79 } : Room) s m args below meth c H locs 0 0 (MQ below (Qv D ct ad L φ N0 Q) args s 0 0 (AA N0)) (F0 m 80 ls [])) : ∀ (n : Nat) (σ : St) (x1 : Int) (x2 : Int) (x3 : Int) (x4 : Int) (H : Heap) (locs : List Loc) (ls : Array Slot), wp_X12_plansCuts_25 K80 Q n σ x1 x2 x3 x4 → Hs D ct ad L φ N0 s.heap σ H locs → lv_has ls 6 [(0, .ref (ad 12 0)), (1, .int (iv x1)), (2, .int (iv x2)), (3, .int (iv x3)), (4, .int (iv x4))] → W p l e ({ frames := 3, cells := 0, slots := 0, locals := 79 } : Room) s m args below meth c H locs 0 0 (MQ below (Qv D ct ad L φ N0 Q) args s 0 0 (AA N0)) (F0 m 25 ls []) := by
  have hF := X.2.2.2.2.2.2.2.2.1
  intro n
  induction n with
  | zero => intro σ x1 x2 x3 x4 H locs ls hw; exact hw.elim
  | succ n ih =>
    intro σ x1 x2 x3 x4 H locs ls hw h hl
    unfold wp_X12_plansCuts_25 at hw
    refine lv_iload_n X.1 X.2.1 dX12_plansCuts_25 rfl (lv_at hl 2 rfl) ?_
    refine lv_iload_n X.1 X.2.1 dX12_plansCuts_26 rfl (lv_at hl 3 rfl) ?_
    refine j_iadd X dX12_plansCuts_27 ?_
    refine lv_iload X.1 X.2.1 dX12_plansCuts_28 (lv_at hl 4 rfl) ?_
    refine j_iadd X dX12_plansCuts_30 ?_
    refine lv_aload_n X.1 X.2.1 dX12_plansCuts_31 rfl (lv_at hl 0 rfl) ?_
    refine r_get (ci := 12) X inw_12 h (hF.1 12 rfl).1 rfl rfl 94 (by decide) kw_1732 rfl dX12_plansCuts_32 ?_
    obtain ⟨g_22, g_23, hwt, hwf⟩ := hw
    refine j_cmp_gt (tgt := 80) X g_22 g_23 dX12_plansCuts_35 (by decide) (fun c_29 => ?_) (fun c_29 => ?_)
    · have hw := hwt c_29
      exact hK80 σ x1 x2 x3 _ _ _ hw h (lv_sub hl [0, 1, 2, 3] rfl)
    · have hw := hwf c_29
      refine lv_aload_n X.1 X.2.1 dX12_plansCuts_38 rfl (lv_at hl 0 rfl) ?_
      refine r_getR (ci := 12) X inw_12 h (hF.1 12 rfl).1 rfl rfl 90 (by decide) kw_1728 rfl ((hF.1 12 rfl).2 90) dX12_plansCuts_39 ?_
      refine j_sipush X dX12_plansCuts_42 (by decide) ?_
      refine lv_iload_n X.1 X.2.1 dX12_plansCuts_45 rfl (lv_at hl 2 rfl) ?_
      refine lv_iload_n X.1 X.2.1 dX12_plansCuts_46 rfl (lv_at hl 3 rfl) ?_
      refine lv_iload X.1 X.2.1 dX12_plansCuts_47 (lv_at hl 4 rfl) ?_
      refine k_i h (r_S (As := [.int (iv x2), .int (iv x3), .int (iv x4)]) (rest := [.int (iv 17576), .ref (ad 149 0)]) X h (c_X12_stateOf l D ct ad L φ N0 σ x2 x3 x4 _ hw) rfl rfl ⟨Nat.le_of_ble_eq_true rfl, Nat.le_of_ble_eq_true rfl⟩ kw_2399 kw_2400 kw_129 kw_2401 pd_X12_stateOf rfl hl.1 rfl (Nat.le_of_ble_eq_true rfl) ⟨Nat.le_of_ble_eq_true rfl, Nat.le_of_ble_eq_true rfl⟩ dX12_plansCuts_49) (fun r_25 σ_24 H locs hw h => ?_)
      refine j_iadd X dX12_plansCuts_52 ?_
      refine lv_aload_n X.1 X.2.1 dX12_plansCuts_53 rfl (lv_at hl 0 rfl) ?_
      refine r_get (ci := 12) X inw_12 h (hF.1 12 rfl).1 rfl rfl 94 (by decide) kw_1732 rfl dX12_plansCuts_54 ?_
      refine lv_iload_n X.1 X.2.1 dX12_plansCuts_57 rfl (lv_at hl 2 rfl) ?_
      refine j_isub X dX12_plansCuts_58 ?_
      refine lv_iload_n X.1 X.2.1 dX12_plansCuts_59 rfl (lv_at hl 3 rfl) ?_
      refine j_isub X dX12_plansCuts_60 ?_
      refine lv_iload X.1 X.2.1 dX12_plansCuts_61 (lv_at hl 4 rfl) ?_
      refine j_isub X dX12_plansCuts_63 ?_
      refine lv_iload_n X.1 X.2.1 dX12_plansCuts_64 rfl (lv_at hl 1 rfl) ?_
      obtain ⟨g_26, g_27, hwt, hwf⟩ := hw
      refine j_cmp_lt (tgt := 72) X g_26 g_27 dX12_plansCuts_65 (by decide) (fun c_28 => ?_) (fun c_28 => ?_)
      · have hw := hwt c_28
        refine j_iconst X dX12_plansCuts_72 ?_
        exact lb_X12_plansCuts_73 X ih hK80 σ_24 x1 x2 x3 x4 (-1) (17576 + r_25) _ _ _ hw h (lv_sub hl [0, 1, 2, 3, 4] rfl)
      · have hw := hwf c_28
        refine j_iconst X dX12_plansCuts_68 ?_
        refine lv_goto (tgt := 73) X.1 X.2.1 dX12_plansCuts_69 (by decide) ?_
        exact lb_X12_plansCuts_73 X ih hK80 σ_24 x1 x2 x3 x4 0 (17576 + r_25) _ _ _ hw h (lv_sub hl [0, 1, 2, 3, 4] rfl)
set_option maxRecDepth 100000 in
set_option maxHeartbeats 4000000 in
theorem lb_X12_plansCuts_12 (X : Cx p s m meth c args cX12_plansCuts 6 none RX12 D ct L φ N0) {K86 : St → Int → Int → Prop} (hK86 : ∀ (σ : St) (x1 : Int) (x2 : Int) (H : Heap) (locs : List Loc) (ls : Array Slot), K86 σ x1 x2 → Hs D ct ad L φ N0 s.heap σ H locs → lv_has ls 6 [(0, .ref (ad 12 0)), (1, .int (iv x1)), (2, .int (iv x2))] → W p l e ({ frames := 3, cells := 0, slots := 0, locals := 79 } : Room) s m args below meth c H locs 0 0 (MQ below (Qv D ct ad L φ N0 Q) args s 0 0 (AA N0)) (F0 m 86 ls [])) : ∀ (n : Nat) (σ : St) (x1 : Int) (x2 : Int) (x3 : Int) (H : Heap) (locs : List Loc) (ls : Array Slot), wp_X12_plansCuts_12 K86 Q n σ x1 x2 x3 → Hs D ct ad L φ N0 s.heap σ H locs → lv_has ls 6 [(0, .ref (ad 12 0)), (1, .int (iv x1)), (2, .int (iv x2)), (3, .int (iv x3))] → W p l e ({ frames := 3, cells := 0, slots := 0, locals := 79 } : Room) s m args below meth c H locs 0 0 (MQ below (Qv D ct ad L φ N0 Q) args s 0 0 (AA N0)) (F0 m 12 ls []) := by
  have hF := X.2.2.2.2.2.2.2.2.1
  intro n
  induction n with
  | zero => intro σ x1 x2 x3 H locs ls hw; exact hw.elim
  | succ n ih =>
    intro σ x1 x2 x3 H locs ls hw h hl
    unfold wp_X12_plansCuts_12 at hw
    refine lv_iload_n X.1 X.2.1 dX12_plansCuts_12 rfl (lv_at hl 2 rfl) ?_
    refine lv_iload_n X.1 X.2.1 dX12_plansCuts_13 rfl (lv_at hl 3 rfl) ?_
    refine j_iadd X dX12_plansCuts_14 ?_
    refine lv_aload_n X.1 X.2.1 dX12_plansCuts_15 rfl (lv_at hl 0 rfl) ?_
    refine r_get (ci := 12) X inw_12 h (hF.1 12 rfl).1 rfl rfl 94 (by decide) kw_1732 rfl dX12_plansCuts_16 ?_
    obtain ⟨g_30, g_31, hwt, hwf⟩ := hw
    refine j_cmp_gt (tgt := 86) X g_30 g_31 dX12_plansCuts_19 (by decide) (fun c_32 => ?_) (fun c_32 => ?_)
    · have hw := hwt c_32
      exact hK86 σ x1 x2 _ _ _ hw h (lv_sub hl [0, 1, 2] rfl)
    · have hw := hwf c_32
      refine j_iconst X dX12_plansCuts_22 ?_
      refine lv_istore (lv' := [(4, .int (iv 0)), (0, .ref (ad 12 0)), (1, .int (iv x1)), (2, .int (iv x2)), (3, .int (iv x3))]) X.1 X.2.1 dX12_plansCuts_23 hl (by decide) rfl (fun ls hl => ?_)
      exact hw.elim (fun n25 hw => lb_X12_plansCuts_25 X (lb_X12_plansCuts_80 X ih hK86) n25 σ x1 x2 x3 0 _ _ _ hw h (lv_sub hl [1, 2, 3, 4, 0] rfl))
set_option maxRecDepth 100000 in
set_option maxHeartbeats 4000000 in
theorem lb_X12_plansCuts_2 (X : Cx p s m meth c args cX12_plansCuts 6 none RX12 D ct L φ N0) {K92 : St → Prop} (hK92 : ∀ (σ : St) (H : Heap) (locs : List Loc) (ls : Array Slot), K92 σ → Hs D ct ad L φ N0 s.heap σ H locs → lv_has ls 6 [(0, .ref (ad 12 0))] → W p l e ({ frames := 3, cells := 0, slots := 0, locals := 79 } : Room) s m args below meth c H locs 0 0 (MQ below (Qv D ct ad L φ N0 Q) args s 0 0 (AA N0)) (F0 m 92 ls [])) : ∀ (n : Nat) (σ : St) (x1 : Int) (x2 : Int) (H : Heap) (locs : List Loc) (ls : Array Slot), wp_X12_plansCuts_2 K92 Q n σ x1 x2 → Hs D ct ad L φ N0 s.heap σ H locs → lv_has ls 6 [(0, .ref (ad 12 0)), (1, .int (iv x1)), (2, .int (iv x2))] → W p l e ({ frames := 3, cells := 0, slots := 0, locals := 79 } : Room) s m args below meth c H locs 0 0 (MQ below (Qv D ct ad L φ N0 Q) args s 0 0 (AA N0)) (F0 m 2 ls []) := by
  have hF := X.2.2.2.2.2.2.2.2.1
  intro n
  induction n with
  | zero => intro σ x1 x2 H locs ls hw; exact hw.elim
  | succ n ih =>
    intro σ x1 x2 H locs ls hw h hl
    unfold wp_X12_plansCuts_2 at hw
    refine lv_iload_n X.1 X.2.1 dX12_plansCuts_2 rfl (lv_at hl 2 rfl) ?_
    refine lv_aload_n X.1 X.2.1 dX12_plansCuts_3 rfl (lv_at hl 0 rfl) ?_
    refine r_get (ci := 12) X inw_12 h (hF.1 12 rfl).1 rfl rfl 94 (by decide) kw_1732 rfl dX12_plansCuts_4 ?_
    obtain ⟨g_33, g_34, hwt, hwf⟩ := hw
    refine j_cmp_gt (tgt := 92) X g_33 g_34 dX12_plansCuts_7 (by decide) (fun c_35 => ?_) (fun c_35 => ?_)
    · have hw := hwt c_35
      exact hK92 σ _ _ _ hw h (lv_sub hl [0] rfl)
    · have hw := hwf c_35
      refine j_iconst X dX12_plansCuts_10 ?_
      refine lv_istore_n (lv' := [(3, .int (iv 0)), (0, .ref (ad 12 0)), (1, .int (iv x1)), (2, .int (iv x2))]) X.1 X.2.1 dX12_plansCuts_11 rfl hl (by decide) rfl (fun ls hl => ?_)
      exact hw.elim (fun n12 hw => lb_X12_plansCuts_12 X (lb_X12_plansCuts_86 X ih hK92) n12 σ x1 x2 0 _ _ _ hw h (lv_sub hl [1, 2, 3, 0] rfl))
theorem pd_X12_plansCuts : yX12_plansCuts.cls ≠ "java/lang/invoke/MethodHandle" ∧ yX12_plansCuts.cls ≠ "java/lang/invoke/VarHandle" ∧ (parseMethodDescriptor yX12_plansCuts.desc).map (fun d => d.parameters.length) = some 1 := by decide +kernel
set_option maxRecDepth 100000 in
set_option maxHeartbeats 4000000 in
theorem c_X12_plansCuts (l : Launch) (D : va_G) (ct : Nat → ClassId) (ad : Nat → Nat → Nat) (L : List (Nat × Nat)) (φ : Nat → Nat → Nat → Bool) (N0 : Nat) (σ : St) (x1 : Int) (Q : St → Prop) (hw : wp_X12_plansCuts σ x1 Q) : Met l yX12_plansCuts (.code yX12_plansCuts cX12_plansCuts 6 none :: gw) ({ frames := 3, cells := 0, slots := 0, locals := 79 } : Room) (Pm D ct ad L φ N0 σ [.ref (ad 12 0), .int (iv x1)]) (Qv D ct ad L φ N0 Q) 0 0 (AA N0) := by
  refine m_of (by decide) (fun p e s m below meth c X hnm h => ?_)
  have hF := X.2.2.2.2.2.2.2.2.1
  have hl := lv_entry ([.ref (ad 12 0), .int (iv x1)]) (n := 6) (Nat.le_of_ble_eq_true rfl)
  rw [lg_entry_eq]
  generalize (lg_sl ([.ref (ad 12 0), .int (iv x1)]) ++ List.replicate (6 - (lg_sl ([.ref (ad 12 0), .int (iv x1)])).length) Slot.unset).toArray = ls at hl ⊢
  have hl : lv_has ls 6 [(0, .ref (ad 12 0)), (1, .int (iv x1))] := hl
  have h : Hs D ct ad L φ N0 s.heap σ s.heap [] := h
  unfold wp_X12_plansCuts at hw
  refine j_iconst X dX12_plansCuts_0 ?_
  refine lv_istore_n (lv' := [(2, .int (iv 0)), (0, .ref (ad 12 0)), (1, .int (iv x1))]) X.1 X.2.1 dX12_plansCuts_1 rfl hl (by decide) rfl (fun ls hl => ?_)
  exact hw.elim (fun n2 hw => lb_X12_plansCuts_2 X (lb_X12_plansCuts_92 X) n2 σ x1 0 _ _ _ hw h (lv_sub hl [1, 2, 0] rfl))
end
section
variable {p : Program} {l : Launch} {e : Env} {s : State} {m : MethodId} {args : Array Value} {below : List Frame} {meth : Method} {c : Code} {D : va_G} {ct : Nat → ClassId} {ad : Nat → Nat → Nat} {L : List (Nat × Nat)} {φ : Nat → Nat → Nat → Bool} {N0 : Nat}
variable {Q : Int → St → Prop}
set_option maxRecDepth 100000 in
set_option maxHeartbeats 4000000 in
theorem lb_X12_forty_270 (X : Cx p s m meth c args cX12_forty 16 (some .int) RX12 D ct L φ N0) {K163 : St → Int → Int → Int → Int → Int → Prop} (hK163 : ∀ (σ : St) (x8 : Int) (x9 : Int) (x10 : Int) (x11 : Int) (x12 : Int) (H : Heap) (locs : List Loc) (ls : Array Slot), K163 σ x8 x9 x10 x11 x12 → Hs D ct ad L φ N0 s.heap σ H locs → lv_has ls 16 [(0, .ref (ad 12 0)), (8, .int (iv x8)), (9, .int (iv x9)), (10, .int (iv x10)), (11, .int (iv x11)), (12, .int (iv x12))] → W p l e ({ frames := 4, cells := 0, slots := 0, locals := 104 } : Room) s m args below meth c H locs 0 0 (MQ below (Qi D ct ad L φ N0 Q) args s 0 0 (AA N0)) (F0 m 163 ls [])) (σ : St) (x8 : Int) (x9 : Int) (x10 : Int) (x12 : Int) (x14 : Int) (x15 : Int) (H : Heap) (locs : List Loc) (ls : Array Slot) (hw : wp_X12_forty_270 K163 Q σ x8 x9 x10 x12 x14 x15) (h : Hs D ct ad L φ N0 s.heap σ H locs) (hl : lv_has ls 16 [(0, .ref (ad 12 0)), (8, .int (iv x8)), (9, .int (iv x9)), (10, .int (iv x10)), (12, .int (iv x12)), (14, .int (iv x14)), (15, .int (iv x15))]) : W p l e ({ frames := 4, cells := 0, slots := 0, locals := 104 } : Room) s m args below meth c H locs 0 0 (MQ below (Qi D ct ad L φ N0 Q) args s 0 0 (AA N0)) (F0 m 270 ls []) := by
  have hF := X.2.2.2.2.2.2.2.2.1
  unfold wp_X12_forty_270 at hw
  refine lv_aload_n X.1 X.2.1 dX12_forty_270 rfl (lv_at hl 0 rfl) ?_
  refine r_getR (ci := 12) X inw_12 h (hF.1 12 rfl).1 rfl rfl 91 (by decide) kw_1729 rfl ((hF.1 12 rfl).2 91) dX12_forty_271 ?_
  refine lv_iload X.1 X.2.1 dX12_forty_274 (lv_at hl 4 rfl) ?_
  refine lv_iload X.1 X.2.1 dX12_forty_276 (lv_at hl 5 rfl) ?_
  obtain ⟨g_1, g_2, hw⟩ := hw
  refine r_iast (n := 8) X h (hF.1 150 rfl).1 (fun _ => rfl) (by decide) g_1 g_2 rfl dX12_forty_278 (fun H locs h => ?_)
  obtain ⟨σ_3, eσ_3⟩ : ∃ z : St, z = st σ 150 0 (Int.toNat x12) x14 := ⟨_, rfl⟩
  rw [← eσ_3] at h
  have hw := hw σ_3 eσ_3
  refine lv_aload_n X.1 X.2.1 dX12_forty_279 rfl (lv_at hl 0 rfl) ?_
  refine r_getR (ci := 12) X inw_12 h (hF.1 12 rfl).1 rfl rfl 92 (by decide) kw_1730 rfl ((hF.1 12 rfl).2 92) dX12_forty_280 ?_
  refine lv_iload X.1 X.2.1 dX12_forty_283 (lv_at hl 4 rfl) ?_
  refine lv_iload X.1 X.2.1 dX12_forty_285 (lv_at hl 6 rfl) ?_
  obtain ⟨g_4, g_5, hw⟩ := hw
  refine r_iast (n := 8) X h (hF.1 151 rfl).1 (fun _ => rfl) (by decide) g_4 g_5 rfl dX12_forty_287 (fun H locs h => ?_)
  obtain ⟨σ_6, eσ_6⟩ : ∃ z : St, z = st σ_3 151 0 (Int.toNat x12) x15 := ⟨_, rfl⟩
  rw [← eσ_6] at h
  have hw := hw σ_6 eσ_6
  refine lv_iload X.1 X.2.1 dX12_forty_288 (lv_at hl 3 rfl) ?_
  refine lv_istore (lv' := [(11, .int (iv x10)), (0, .ref (ad 12 0)), (8, .int (iv x8)), (9, .int (iv x9)), (10, .int (iv x10)), (12, .int (iv x12)), (14, .int (iv x14)), (15, .int (iv x15))]) X.1 X.2.1 dX12_forty_290 hl (by decide) rfl (fun ls hl => ?_)
  refine lv_iload X.1 X.2.1 dX12_forty_292 (lv_at hl 3 rfl) ?_
  refine lv_istore (lv' := [(10, .int (iv x9)), (11, .int (iv x10)), (0, .ref (ad 12 0)), (8, .int (iv x8)), (9, .int (iv x9)), (12, .int (iv x12)), (14, .int (iv x14)), (15, .int (iv x15))]) X.1 X.2.1 dX12_forty_294 hl (by decide) rfl (fun ls hl => ?_)
  refine lv_iload X.1 X.2.1 dX12_forty_296 (lv_at hl 6 rfl) ?_
  refine lv_iload X.1 X.2.1 dX12_forty_298 (lv_at hl 7 rfl) ?_
  refine j_iadd X dX12_forty_300 ?_
  refine j_bind (fun v_7 ev_7 => ?_)
  have hw := hw v_7 ev_7
  refine lv_istore (lv' := [(9, .int (iv v_7)), (10, .int (iv x9)), (11, .int (iv x10)), (0, .ref (ad 12 0)), (8, .int (iv x8)), (12, .int (iv x12)), (14, .int (iv x14)), (15, .int (iv x15))]) X.1 X.2.1 dX12_forty_301 hl (by decide) rfl (fun ls hl => ?_)
  refine j_iinc (kk9 := 5) (lv' := [(12, .int (iv (x12 + 1))), (9, .int (iv v_7)), (10, .int (iv x9)), (11, .int (iv x10)), (0, .ref (ad 12 0)), (8, .int (iv x8)), (14, .int (iv x14)), (15, .int (iv x15))]) X dX12_forty_303 hl rfl (by decide) rfl (fun ls hl => ?_)
  refine lv_goto (tgt := 163) X.1 X.2.1 dX12_forty_306 (by decide) ?_
  exact hK163 σ_6 x8 v_7 x9 x10 (x12 + 1) _ _ _ hw h (lv_sub hl [4, 5, 1, 2, 3, 0] rfl)
set_option maxRecDepth 100000 in
set_option maxHeartbeats 4000000 in
theorem lb_X12_forty_265 (X : Cx p s m meth c args cX12_forty 16 (some .int) RX12 D ct L φ N0) {K191 : St → Int → Int → Int → Int → Int → Int → Int → Int → Prop} {K270 : St → Int → Int → Int → Int → Int → Int → Prop} (hK191 : ∀ (σ : St) (x8 : Int) (x9 : Int) (x10 : Int) (x11 : Int) (x12 : Int) (x13 : Int) (x14 : Int) (x15 : Int) (H : Heap) (locs : List Loc) (ls : Array Slot), K191 σ x8 x9 x10 x11 x12 x13 x14 x15 → Hs D ct ad L φ N0 s.heap σ H locs → lv_has ls 16 [(0, .ref (ad 12 0)), (8, .int (iv x8)), (9, .int (iv x9)), (10, .int (iv x10)), (11, .int (iv x11)), (12, .int (iv x12)), (13, .int (iv x13)), (14, .int (iv x14)), (15, .int (iv x15))] → W p l e ({ frames := 4, cells := 0, slots := 0, locals := 104 } : Room) s m args below meth c H locs 0 0 (MQ below (Qi D ct ad L φ N0 Q) args s 0 0 (AA N0)) (F0 m 191 ls [])) (hK270 : ∀ (σ : St) (x8 : Int) (x9 : Int) (x10 : Int) (x12 : Int) (x14 : Int) (x15 : Int) (H : Heap) (locs : List Loc) (ls : Array Slot), K270 σ x8 x9 x10 x12 x14 x15 → Hs D ct ad L φ N0 s.heap σ H locs → lv_has ls 16 [(0, .ref (ad 12 0)), (8, .int (iv x8)), (9, .int (iv x9)), (10, .int (iv x10)), (12, .int (iv x12)), (14, .int (iv x14)), (15, .int (iv x15))] → W p l e ({ frames := 4, cells := 0, slots := 0, locals := 104 } : Room) s m args below meth c H locs 0 0 (MQ below (Qi D ct ad L φ N0 Q) args s 0 0 (AA N0)) (F0 m 270 ls [])) (σ : St) (x8 : Int) (x9 : Int) (x10 : Int) (x11 : Int) (x12 : Int) (x13 : Int) (x14 : Int) (y0 : Int) (H : Heap) (locs : List Loc) (ls : Array Slot) (hw : wp_X12_forty_265 K191 K270 Q σ x8 x9 x10 x11 x12 x13 x14 y0) (h : Hs D ct ad L φ N0 s.heap σ H locs) (hl : lv_has ls 16 [(0, .ref (ad 12 0)), (8, .int (iv x8)), (9, .int (iv x9)), (10, .int (iv x10)), (11, .int (iv x11)), (12, .int (iv x12)), (13, .int (iv x13)), (14, .int (iv x14))]) : W p l e ({ frames := 4, cells := 0, slots := 0, locals := 104 } : Room) s m args below meth c H locs 0 0 (MQ below (Qi D ct ad L φ N0 Q) args s 0 0 (AA N0)) (F0 m 265 ls [.int (iv y0)]) := by
  have hF := X.2.2.2.2.2.2.2.2.1
  unfold wp_X12_forty_265 at hw
  refine lv_istore (lv' := [(15, .int (iv y0)), (0, .ref (ad 12 0)), (8, .int (iv x8)), (9, .int (iv x9)), (10, .int (iv x10)), (11, .int (iv x11)), (12, .int (iv x12)), (13, .int (iv x13)), (14, .int (iv x14))]) X.1 X.2.1 dX12_forty_265 hl (by decide) rfl (fun ls hl => ?_)
  refine lv_goto (tgt := 191) X.1 X.2.1 dX12_forty_267 (by decide) ?_
  exact hK191 σ x8 x9 x10 x11 x12 x13 x14 y0 _ _ _ hw h (lv_sub hl [1, 2, 3, 4, 5, 6, 7, 8, 0] rfl)
set_option maxRecDepth 100000 in
set_option maxHeartbeats 4000000 in
theorem lb_X12_forty_247 (X : Cx p s m meth c args cX12_forty 16 (some .int) RX12 D ct L φ N0) {K191 : St → Int → Int → Int → Int → Int → Int → Int → Int → Prop} {K270 : St → Int → Int → Int → Int → Int → Int → Prop} (hK191 : ∀ (σ : St) (x8 : Int) (x9 : Int) (x10 : Int) (x11 : Int) (x12 : Int) (x13 : Int) (x14 : Int) (x15 : Int) (H : Heap) (locs : List Loc) (ls : Array Slot), K191 σ x8 x9 x10 x11 x12 x13 x14 x15 → Hs D ct ad L φ N0 s.heap σ H locs → lv_has ls 16 [(0, .ref (ad 12 0)), (8, .int (iv x8)), (9, .int (iv x9)), (10, .int (iv x10)), (11, .int (iv x11)), (12, .int (iv x12)), (13, .int (iv x13)), (14, .int (iv x14)), (15, .int (iv x15))] → W p l e ({ frames := 4, cells := 0, slots := 0, locals := 104 } : Room) s m args below meth c H locs 0 0 (MQ below (Qi D ct ad L φ N0 Q) args s 0 0 (AA N0)) (F0 m 191 ls [])) (hK270 : ∀ (σ : St) (x8 : Int) (x9 : Int) (x10 : Int) (x12 : Int) (x14 : Int) (x15 : Int) (H : Heap) (locs : List Loc) (ls : Array Slot), K270 σ x8 x9 x10 x12 x14 x15 → Hs D ct ad L φ N0 s.heap σ H locs → lv_has ls 16 [(0, .ref (ad 12 0)), (8, .int (iv x8)), (9, .int (iv x9)), (10, .int (iv x10)), (12, .int (iv x12)), (14, .int (iv x14)), (15, .int (iv x15))] → W p l e ({ frames := 4, cells := 0, slots := 0, locals := 104 } : Room) s m args below meth c H locs 0 0 (MQ below (Qi D ct ad L φ N0 Q) args s 0 0 (AA N0)) (F0 m 270 ls [])) (σ : St) (x8 : Int) (x9 : Int) (x10 : Int) (x11 : Int) (x12 : Int) (x13 : Int) (x15 : Int) (y0 : Int) (y1 : Int) (H : Heap) (locs : List Loc) (ls : Array Slot) (hw : wp_X12_forty_247 K191 K270 Q σ x8 x9 x10 x11 x12 x13 x15 y0 y1) (h : Hs D ct ad L φ N0 s.heap σ H locs) (hl : lv_has ls 16 [(0, .ref (ad 12 0)), (8, .int (iv x8)), (9, .int (iv x9)), (10, .int (iv x10)), (11, .int (iv x11)), (12, .int (iv x12)), (13, .int (iv x13)), (15, .int (iv x15))]) : W p l e ({ frames := 4, cells := 0, slots := 0, locals := 104 } : Room) s m args below meth c H locs 0 0 (MQ below (Qi D ct ad L φ N0 Q) args s 0 0 (AA N0)) (F0 m 247 ls [.int (iv y0), .int (iv y1)]) := by
  have hF := X.2.2.2.2.2.2.2.2.1
  unfold wp_X12_forty_247 at hw
  refine j_iadd X dX12_forty_247 ?_
  refine j_bind (fun v_8 ev_8 => ?_)
  have hw := hw v_8 ev_8
  refine lv_istore (lv' := [(14, .int (iv v_8)), (0, .ref (ad 12 0)), (8, .int (iv x8)), (9, .int (iv x9)), (10, .int (iv x10)), (11, .int (iv x11)), (12, .int (iv x12)), (13, .int (iv x13)), (15, .int (iv x15))]) X.1 X.2.1 dX12_forty_248 hl (by decide) rfl (fun ls hl => ?_)
  refine lv_iload X.1 X.2.1 dX12_forty_250 (lv_at hl 8 rfl) ?_
  refine lv_iload X.1 X.2.1 dX12_forty_252 (lv_at hl 5 rfl) ?_
  obtain ⟨g_9, g_10, hwt, hwf⟩ := hw
  refine j_cmp_ne (tgt := 261) X g_9 g_10 dX12_forty_254 (by decide) (fun c_11 => ?_) (fun c_11 => ?_)
  · have hw := hwt c_11
    refine lv_iload X.1 X.2.1 dX12_forty_261 (lv_at hl 8 rfl) ?_
    refine j_iconst X dX12_forty_263 ?_
    refine j_iadd X dX12_forty_264 ?_
    exact lb_X12_forty_265 X hK191 hK270 σ x8 x9 x10 x11 x12 x13 v_8 (x15 + 1) _ _ _ hw h (lv_sub hl [1, 2, 3, 4, 5, 6, 7, 0] rfl)
  · have hw := hwf c_11
    refine j_iconst X dX12_forty_257 ?_
    refine lv_goto (tgt := 265) X.1 X.2.1 dX12_forty_258 (by decide) ?_
    exact lb_X12_forty_265 X hK191 hK270 σ x8 x9 x10 x11 x12 x13 v_8 0 _ _ _ hw h (lv_sub hl [1, 2, 3, 4, 5, 6, 7, 0] rfl)
set_option maxRecDepth 100000 in
set_option maxHeartbeats 4000000 in
theorem lb_X12_forty_191 (X : Cx p s m meth c args cX12_forty 16 (some .int) RX12 D ct L φ N0) {K270 : St → Int → Int → Int → Int → Int → Int → Prop} (hK270 : ∀ (σ : St) (x8 : Int) (x9 : Int) (x10 : Int) (x12 : Int) (x14 : Int) (x15 : Int) (H : Heap) (locs : List Loc) (ls : Array Slot), K270 σ x8 x9 x10 x12 x14 x15 → Hs D ct ad L φ N0 s.heap σ H locs → lv_has ls 16 [(0, .ref (ad 12 0)), (8, .int (iv x8)), (9, .int (iv x9)), (10, .int (iv x10)), (12, .int (iv x12)), (14, .int (iv x14)), (15, .int (iv x15))] → W p l e ({ frames := 4, cells := 0, slots := 0, locals := 104 } : Room) s m args below meth c H locs 0 0 (MQ below (Qi D ct ad L φ N0 Q) args s 0 0 (AA N0)) (F0 m 270 ls [])) : ∀ (n : Nat) (σ : St) (x8 : Int) (x9 : Int) (x10 : Int) (x11 : Int) (x12 : Int) (x13 : Int) (x14 : Int) (x15 : Int) (H : Heap) (locs : List Loc) (ls : Array Slot), wp_X12_forty_191 K270 Q n σ x8 x9 x10 x11 x12 x13 x14 x15 → Hs D ct ad L φ N0 s.heap σ H locs → lv_has ls 16 [(0, .ref (ad 12 0)), (8, .int (iv x8)), (9, .int (iv x9)), (10, .int (iv x10)), (11, .int (iv x11)), (12, .int (iv x12)), (13, .int (iv x13)), (14, .int (iv x14)), (15, .int (iv x15))] → W p l e ({ frames := 4, cells := 0, slots := 0, locals := 104 } : Room) s m args below meth c H locs 0 0 (MQ below (Qi D ct ad L φ N0 Q) args s 0 0 (AA N0)) (F0 m 191 ls []) := by
  have hF := X.2.2.2.2.2.2.2.2.1
  intro n
  induction n with
  | zero => intro σ x8 x9 x10 x11 x12 x13 x14 x15 H locs ls hw; exact hw.elim
  | succ n ih =>
    intro σ x8 x9 x10 x11 x12 x13 x14 x15 H locs ls hw h hl
    unfold wp_X12_forty_191 at hw
    refine lv_aload_n X.1 X.2.1 dX12_forty_191 rfl (lv_at hl 0 rfl) ?_
    refine lv_iload X.1 X.2.1 dX12_forty_192 (lv_at hl 5 rfl) ?_
    refine lv_iload X.1 X.2.1 dX12_forty_194 (lv_at hl 2 rfl) ?_
    refine lv_iload X.1 X.2.1 dX12_forty_196 (lv_at hl 3 rfl) ?_
    refine lv_iload X.1 X.2.1 dX12_forty_198 (lv_at hl 4 rfl) ?_
    refine lv_iload X.1 X.2.1 dX12_forty_200 (lv_at hl 6 rfl) ?_
    refine lv_iload X.1 X.2.1 dX12_forty_202 (lv_at hl 7 rfl) ?_
    refine lv_iload X.1 X.2.1 dX12_forty_204 (lv_at hl 8 rfl) ?_
    refine k_i h (r_V (C := RX12) (ci := 12) (As := [.int (iv x12), .int (iv x9), .int (iv x10), .int (iv x11), .int (iv x13), .int (iv x14), .int (iv x15)]) (rest := []) X h (c_X12_withCut l D ct ad L φ N0 σ x12 x9 x10 x11 x13 x14 x15 _ hw) rfl rfl ⟨Nat.le_of_ble_eq_true rfl, Nat.le_of_ble_eq_true rfl⟩ kw_2406 kw_2408 kw_115 kw_129 kw_2409 ⟨rfl, pd_X12_withCut⟩ (hF.1 12 rfl).1 rfl rfl rfl hl.1 rfl (Nat.le_of_ble_eq_true rfl) ⟨Nat.le_of_ble_eq_true rfl, Nat.le_of_ble_eq_true rfl⟩ dX12_forty_206) (fun r_13 σ_12 H locs hw h => ?_)
    refine lv_aload_n X.1 X.2.1 dX12_forty_209 rfl (lv_at hl 0 rfl) ?_
    refine r_getR (ci := 12) X inw_12 h (hF.1 12 rfl).1 rfl rfl 90 (by decide) kw_1728 rfl ((hF.1 12 rfl).2 90) dX12_forty_210 ?_
    refine j_sipush X dX12_forty_213 (by decide) ?_
    refine lv_iload X.1 X.2.1 dX12_forty_216 (lv_at hl 5 rfl) ?_
    refine j_imul X dX12_forty_218 ?_
    refine lv_iload X.1 X.2.1 dX12_forty_219 (lv_at hl 2 rfl) ?_
    refine lv_iload X.1 X.2.1 dX12_forty_221 (lv_at hl 3 rfl) ?_
    refine lv_iload X.1 X.2.1 dX12_forty_223 (lv_at hl 4 rfl) ?_
    refine k_i h (r_S (As := [.int (iv x9), .int (iv x10), .int (iv x11)]) (rest := [.int (iv (2197 * x12)), .ref (ad 149 0), .int (iv r_13)]) X h (c_X12_stateOf l D ct ad L φ N0 σ_12 x9 x10 x11 _ hw) rfl rfl ⟨Nat.le_of_ble_eq_true rfl, Nat.le_of_ble_eq_true rfl⟩ kw_2399 kw_2400 kw_129 kw_2401 pd_X12_stateOf rfl hl.1 rfl (Nat.le_of_ble_eq_true rfl) ⟨Nat.le_of_ble_eq_true rfl, Nat.le_of_ble_eq_true rfl⟩ dX12_forty_225) (fun r_15 σ_14 H locs hw h => ?_)
    refine j_iadd X dX12_forty_228 ?_
    obtain ⟨g_16, g_17, hw⟩ := hw
    refine r_iald (n := 19773) X h (hF.1 149 rfl).1 rfl (by decide) g_16 g_17 dX12_forty_229 ?_
    obtain ⟨g_18, g_19, hwt, hwf⟩ := hw
    refine j_cmp_eq (tgt := 270) X g_18 g_19 dX12_forty_230 (by decide) (fun c_23 => ?_) (fun c_23 => ?_)
    · have hw := hwt c_23
      exact hK270 σ_14 x8 x9 x10 x12 x14 x15 _ _ _ hw h (lv_sub hl [0, 1, 2, 3, 5, 7, 8] rfl)
    · have hw := hwf c_23
      refine lv_iload X.1 X.2.1 dX12_forty_233 (lv_at hl 7 rfl) ?_
      refine lv_iload X.1 X.2.1 dX12_forty_235 (lv_at hl 8 rfl) ?_
      refine lv_iload X.1 X.2.1 dX12_forty_237 (lv_at hl 4 rfl) ?_
      obtain ⟨g_20, g_21, hwt, hwf⟩ := hw
      refine j_cmp_ne (tgt := 246) X g_20 g_21 dX12_forty_239 (by decide) (fun c_22 => ?_) (fun c_22 => ?_)
      · have hw := hwt c_22
        refine j_iconst X dX12_forty_246 ?_
        exact lb_X12_forty_247 X ih hK270 σ_14 x8 x9 x10 x11 x12 x13 x15 0 x14 _ _ _ hw h (lv_sub hl [0, 1, 2, 3, 4, 5, 6, 8] rfl)
      · have hw := hwf c_22
        refine j_iconst X dX12_forty_242 ?_
        refine lv_goto (tgt := 247) X.1 X.2.1 dX12_forty_243 (by decide) ?_
        exact lb_X12_forty_247 X ih hK270 σ_14 x8 x9 x10 x11 x12 x13 x15 1 x14 _ _ _ hw h (lv_sub hl [0, 1, 2, 3, 4, 5, 6, 8] rfl)
set_option maxRecDepth 100000 in
set_option maxHeartbeats 4000000 in
theorem lb_X12_forty_163 (X : Cx p s m meth c args cX12_forty 16 (some .int) RX12 D ct L φ N0) : ∀ (n : Nat) (σ : St) (x8 : Int) (x9 : Int) (x10 : Int) (x11 : Int) (x12 : Int) (H : Heap) (locs : List Loc) (ls : Array Slot), wp_X12_forty_163 Q n σ x8 x9 x10 x11 x12 → Hs D ct ad L φ N0 s.heap σ H locs → lv_has ls 16 [(0, .ref (ad 12 0)), (8, .int (iv x8)), (9, .int (iv x9)), (10, .int (iv x10)), (11, .int (iv x11)), (12, .int (iv x12))] → W p l e ({ frames := 4, cells := 0, slots := 0, locals := 104 } : Room) s m args below meth c H locs 0 0 (MQ below (Qi D ct ad L φ N0 Q) args s 0 0 (AA N0)) (F0 m 163 ls []) := by
  have hF := X.2.2.2.2.2.2.2.2.1
  intro n
  induction n with
  | zero => intro σ x8 x9 x10 x11 x12 H locs ls hw; exact hw.elim
  | succ n ih =>
    intro σ x8 x9 x10 x11 x12 H locs ls hw h hl
    unfold wp_X12_forty_163 at hw
    refine lv_iload X.1 X.2.1 dX12_forty_163 (lv_at hl 5 rfl) ?_
    refine j_bipush X dX12_forty_165 (by decide) ?_
    obtain ⟨g_24, hwt, hwf⟩ := hw
    refine j_cmp_ge (tgt := 309) X g_24 ⟨by decide, by decide⟩ dX12_forty_167 (by decide) (fun c_26 => ?_) (fun c_26 => ?_)
    · have hw := hwt c_26
      refine lv_iload X.1 X.2.1 dX12_forty_309 (lv_at hl 1 rfl) ?_
      exact k_ir X rfl h hw dX12_forty_311
    · have hw := hwf c_26
      refine lv_aload_n X.1 X.2.1 dX12_forty_170 rfl (lv_at hl 0 rfl) ?_
      refine r_get (ci := 12) X inw_12 h (hF.1 12 rfl).1 rfl rfl 94 (by decide) kw_1732 rfl dX12_forty_171 ?_
      refine lv_iload X.1 X.2.1 dX12_forty_174 (lv_at hl 2 rfl) ?_
      refine j_isub X dX12_forty_176 ?_
      refine lv_iload X.1 X.2.1 dX12_forty_177 (lv_at hl 3 rfl) ?_
      refine j_isub X dX12_forty_179 ?_
      refine lv_iload X.1 X.2.1 dX12_forty_180 (lv_at hl 4 rfl) ?_
      refine j_isub X dX12_forty_182 ?_
      refine j_bind (fun v_25 ev_25 => ?_)
      have hw := hw v_25 ev_25
      refine lv_istore (lv' := [(13, .int (iv v_25)), (0, .ref (ad 12 0)), (8, .int (iv x8)), (9, .int (iv x9)), (10, .int (iv x10)), (11, .int (iv x11)), (12, .int (iv x12))]) X.1 X.2.1 dX12_forty_183 hl (by decide) rfl (fun ls hl => ?_)
      refine j_iconst X dX12_forty_185 ?_
      refine lv_istore (lv' := [(14, .int (iv 0)), (13, .int (iv v_25)), (0, .ref (ad 12 0)), (8, .int (iv x8)), (9, .int (iv x9)), (10, .int (iv x10)), (11, .int (iv x11)), (12, .int (iv x12))]) X.1 X.2.1 dX12_forty_186 hl (by decide) rfl (fun ls hl => ?_)
      refine j_iconst X dX12_forty_188 ?_
      refine lv_istore (lv' := [(15, .int (iv 0)), (14, .int (iv 0)), (13, .int (iv v_25)), (0, .ref (ad 12 0)), (8, .int (iv x8)), (9, .int (iv x9)), (10, .int (iv x10)), (11, .int (iv x11)), (12, .int (iv x12))]) X.1 X.2.1 dX12_forty_189 hl (by decide) rfl (fun ls hl => ?_)
      exact hw.elim (fun n191 hw => lb_X12_forty_191 X (lb_X12_forty_270 X ih) n191 σ x8 x9 x10 x11 x12 v_25 0 0 _ _ _ hw h (lv_sub hl [3, 4, 5, 6, 7, 8, 2, 1, 0] rfl))
theorem pd_X12_forty : yX12_forty.cls ≠ "java/lang/invoke/MethodHandle" ∧ yX12_forty.cls ≠ "java/lang/invoke/VarHandle" ∧ (parseMethodDescriptor yX12_forty.desc).map (fun d => d.parameters.length) = some 7 := by decide +kernel
set_option maxRecDepth 100000 in
set_option maxHeartbeats 4000000 in
theorem c_X12_forty (l : Launch) (D : va_G) (ct : Nat → ClassId) (ad : Nat → Nat → Nat) (L : List (Nat × Nat)) (φ : Nat → Nat → Nat → Bool) (N0 : Nat) (σ : St) (x1 : Int) (x2 : Int) (x3 : Int) (x4 : Int) (x5 : Int) (x6 : Int) (x7 : Int) (Q : Int → St → Prop) (hw : wp_X12_forty σ x1 x2 x3 x4 x5 x6 x7 Q) : Met l yX12_forty (.code yX12_forty cX12_forty 16 (some .int) :: gw) ({ frames := 4, cells := 0, slots := 0, locals := 104 } : Room) (Pm D ct ad L φ N0 σ [.ref (ad 12 0), .int (iv x1), .int (iv x2), .int (iv x3), .int (iv x4), .int (iv x5), .int (iv x6), .int (iv x7)]) (Qi D ct ad L φ N0 Q) 0 0 (AA N0) := by
  refine m_of (by decide) (fun p e s m below meth c X hnm h => ?_)
  have hF := X.2.2.2.2.2.2.2.2.1
  have hl := lv_entry ([.ref (ad 12 0), .int (iv x1), .int (iv x2), .int (iv x3), .int (iv x4), .int (iv x5), .int (iv x6), .int (iv x7)]) (n := 16) (Nat.le_of_ble_eq_true rfl)
  rw [lg_entry_eq]
  generalize (lg_sl ([.ref (ad 12 0), .int (iv x1), .int (iv x2), .int (iv x3), .int (iv x4), .int (iv x5), .int (iv x6), .int (iv x7)]) ++ List.replicate (16 - (lg_sl ([.ref (ad 12 0), .int (iv x1), .int (iv x2), .int (iv x3), .int (iv x4), .int (iv x5), .int (iv x6), .int (iv x7)])).length) Slot.unset).toArray = ls at hl ⊢
  have hl : lv_has ls 16 [(0, .ref (ad 12 0)), (1, .int (iv x1)), (2, .int (iv x2)), (3, .int (iv x3)), (4, .int (iv x4)), (5, .int (iv x5)), (6, .int (iv x6)), (7, .int (iv x7))] := hl
  have h : Hs D ct ad L φ N0 s.heap σ s.heap [] := h
  unfold wp_X12_forty at hw
  refine lv_aload_n X.1 X.2.1 dX12_forty_0 rfl (lv_at hl 0 rfl) ?_
  refine j_iconst X dX12_forty_1 ?_
  refine r_put (ci := 12) X inw_12 tyX12 tyX12_ok nmX12 h (hF.1 12 rfl).1 rfl rfl 0 (by decide) kw_1638 rfl rfl rfl (Nat.le_of_ble_eq_true rfl) rfl rfl dX12_forty_2 (fun H locs h => ?_)
  obtain ⟨σ_27, eσ_27⟩ : ∃ z : St, z = st σ 12 0 0 0 := ⟨_, rfl⟩
  rw [← eσ_27] at h
  have hw := hw σ_27 eσ_27
  refine lv_iload_n X.1 X.2.1 dX12_forty_5 rfl (lv_at hl 1 rfl) ?_
  refine j_iconst X dX12_forty_6 ?_
  refine j_bipush X dX12_forty_7 (by decide) ?_
  refine k_i h (r_S (As := [.int (iv x1), .int (iv 0), .int (iv 9)]) (rest := []) X h (c_X12_within l D ct ad L φ N0 σ_27 x1 0 9 _ hw) rfl rfl ⟨Nat.le_of_ble_eq_true rfl, Nat.le_of_ble_eq_true rfl⟩ kw_1959 kw_1960 kw_129 kw_1961 pd_X12_within rfl hl.1 rfl (Nat.le_of_ble_eq_true rfl) ⟨Nat.le_of_ble_eq_true rfl, Nat.le_of_ble_eq_true rfl⟩ dX12_forty_9) (fun r_29 σ_28 H locs hw h => ?_)
  obtain ⟨g_30, hwt, hwf⟩ := hw
  refine j_if_eq (tgt := 92) X g_30 dX12_forty_12 (by decide) (fun c_69 => ?_) (fun c_69 => ?_)
  · have hw := hwt c_69
    refine j_iconst X dX12_forty_92 ?_
    exact k_ir X rfl h hw dX12_forty_93
  · have hw := hwf c_69
    refine lv_iload_n X.1 X.2.1 dX12_forty_15 rfl (lv_at hl 2 rfl) ?_
    refine j_iconst X dX12_forty_16 ?_
    refine j_bipush X dX12_forty_17 (by decide) ?_
    refine k_i h (r_S (As := [.int (iv x2), .int (iv 0), .int (iv 9)]) (rest := []) X h (c_X12_within l D ct ad L φ N0 σ_28 x2 0 9 _ hw) rfl rfl ⟨Nat.le_of_ble_eq_true rfl, Nat.le_of_ble_eq_true rfl⟩ kw_1959 kw_1960 kw_129 kw_1961 pd_X12_within rfl hl.1 rfl (Nat.le_of_ble_eq_true rfl) ⟨Nat.le_of_ble_eq_true rfl, Nat.le_of_ble_eq_true rfl⟩ dX12_forty_19) (fun r_32 σ_31 H locs hw h => ?_)
    obtain ⟨g_33, hwt, hwf⟩ := hw
    refine j_if_eq (tgt := 92) X g_33 dX12_forty_22 (by decide) (fun c_68 => ?_) (fun c_68 => ?_)
    · have hw := hwt c_68
      refine j_iconst X dX12_forty_92 ?_
      exact k_ir X rfl h hw dX12_forty_93
    · have hw := hwf c_68
      refine lv_iload_n X.1 X.2.1 dX12_forty_25 rfl (lv_at hl 3 rfl) ?_
      refine j_iconst X dX12_forty_26 ?_
      refine j_bipush X dX12_forty_27 (by decide) ?_
      refine k_i h (r_S (As := [.int (iv x3), .int (iv 0), .int (iv 9)]) (rest := []) X h (c_X12_within l D ct ad L φ N0 σ_31 x3 0 9 _ hw) rfl rfl ⟨Nat.le_of_ble_eq_true rfl, Nat.le_of_ble_eq_true rfl⟩ kw_1959 kw_1960 kw_129 kw_1961 pd_X12_within rfl hl.1 rfl (Nat.le_of_ble_eq_true rfl) ⟨Nat.le_of_ble_eq_true rfl, Nat.le_of_ble_eq_true rfl⟩ dX12_forty_29) (fun r_35 σ_34 H locs hw h => ?_)
      obtain ⟨g_36, hwt, hwf⟩ := hw
      refine j_if_eq (tgt := 92) X g_36 dX12_forty_32 (by decide) (fun c_67 => ?_) (fun c_67 => ?_)
      · have hw := hwt c_67
        refine j_iconst X dX12_forty_92 ?_
        exact k_ir X rfl h hw dX12_forty_93
      · have hw := hwf c_67
        refine lv_iload X.1 X.2.1 dX12_forty_35 (lv_at hl 4 rfl) ?_
        refine j_iconst X dX12_forty_37 ?_
        refine j_bipush X dX12_forty_38 (by decide) ?_
        refine k_i h (r_S (As := [.int (iv x4), .int (iv 0), .int (iv 9)]) (rest := []) X h (c_X12_within l D ct ad L φ N0 σ_34 x4 0 9 _ hw) rfl rfl ⟨Nat.le_of_ble_eq_true rfl, Nat.le_of_ble_eq_true rfl⟩ kw_1959 kw_1960 kw_129 kw_1961 pd_X12_within rfl hl.1 rfl (Nat.le_of_ble_eq_true rfl) ⟨Nat.le_of_ble_eq_true rfl, Nat.le_of_ble_eq_true rfl⟩ dX12_forty_40) (fun r_38 σ_37 H locs hw h => ?_)
        obtain ⟨g_39, hwt, hwf⟩ := hw
        refine j_if_eq (tgt := 92) X g_39 dX12_forty_43 (by decide) (fun c_66 => ?_) (fun c_66 => ?_)
        · have hw := hwt c_66
          refine j_iconst X dX12_forty_92 ?_
          exact k_ir X rfl h hw dX12_forty_93
        · have hw := hwf c_66
          refine lv_iload_n X.1 X.2.1 dX12_forty_46 rfl (lv_at hl 1 rfl) ?_
          refine lv_iload_n X.1 X.2.1 dX12_forty_47 rfl (lv_at hl 2 rfl) ?_
          refine j_iadd X dX12_forty_48 ?_
          refine lv_iload_n X.1 X.2.1 dX12_forty_49 rfl (lv_at hl 3 rfl) ?_
          refine j_iadd X dX12_forty_50 ?_
          refine lv_iload X.1 X.2.1 dX12_forty_51 (lv_at hl 4 rfl) ?_
          refine j_iadd X dX12_forty_53 ?_
          refine j_bipush X dX12_forty_54 (by decide) ?_
          obtain ⟨g_40, hwt, hwf⟩ := hw
          refine j_cmp_gt (tgt := 92) X g_40 ⟨by decide, by decide⟩ dX12_forty_56 (by decide) (fun c_65 => ?_) (fun c_65 => ?_)
          · have hw := hwt c_65
            refine j_iconst X dX12_forty_92 ?_
            exact k_ir X rfl h hw dX12_forty_93
          · have hw := hwf c_65
            refine lv_iload X.1 X.2.1 dX12_forty_59 (lv_at hl 5 rfl) ?_
            refine j_iconst X dX12_forty_61 ?_
            refine j_bipush X dX12_forty_62 (by decide) ?_
            refine k_i h (r_S (As := [.int (iv x5), .int (iv 0), .int (iv 60)]) (rest := []) X h (c_X12_within l D ct ad L φ N0 σ_37 x5 0 60 _ hw) rfl rfl ⟨Nat.le_of_ble_eq_true rfl, Nat.le_of_ble_eq_true rfl⟩ kw_1959 kw_1960 kw_129 kw_1961 pd_X12_within rfl hl.1 rfl (Nat.le_of_ble_eq_true rfl) ⟨Nat.le_of_ble_eq_true rfl, Nat.le_of_ble_eq_true rfl⟩ dX12_forty_64) (fun r_42 σ_41 H locs hw h => ?_)
            obtain ⟨g_43, hwt, hwf⟩ := hw
            refine j_if_eq (tgt := 92) X g_43 dX12_forty_67 (by decide) (fun c_64 => ?_) (fun c_64 => ?_)
            · have hw := hwt c_64
              refine j_iconst X dX12_forty_92 ?_
              exact k_ir X rfl h hw dX12_forty_93
            · have hw := hwf c_64
              refine lv_iload X.1 X.2.1 dX12_forty_70 (lv_at hl 6 rfl) ?_
              refine j_iconst X dX12_forty_72 ?_
              refine j_bipush X dX12_forty_73 (by decide) ?_
              refine k_i h (r_S (As := [.int (iv x6), .int (iv 0), .int (iv 60)]) (rest := []) X h (c_X12_within l D ct ad L φ N0 σ_41 x6 0 60 _ hw) rfl rfl ⟨Nat.le_of_ble_eq_true rfl, Nat.le_of_ble_eq_true rfl⟩ kw_1959 kw_1960 kw_129 kw_1961 pd_X12_within rfl hl.1 rfl (Nat.le_of_ble_eq_true rfl) ⟨Nat.le_of_ble_eq_true rfl, Nat.le_of_ble_eq_true rfl⟩ dX12_forty_75) (fun r_45 σ_44 H locs hw h => ?_)
              obtain ⟨g_46, hwt, hwf⟩ := hw
              refine j_if_eq (tgt := 92) X g_46 dX12_forty_78 (by decide) (fun c_63 => ?_) (fun c_63 => ?_)
              · have hw := hwt c_63
                refine j_iconst X dX12_forty_92 ?_
                exact k_ir X rfl h hw dX12_forty_93
              · have hw := hwf c_63
                refine lv_iload X.1 X.2.1 dX12_forty_81 (lv_at hl 7 rfl) ?_
                refine j_iconst X dX12_forty_83 ?_
                refine j_bipush X dX12_forty_84 (by decide) ?_
                refine k_i h (r_S (As := [.int (iv x7), .int (iv 0), .int (iv 12)]) (rest := []) X h (c_X12_within l D ct ad L φ N0 σ_44 x7 0 12 _ hw) rfl rfl ⟨Nat.le_of_ble_eq_true rfl, Nat.le_of_ble_eq_true rfl⟩ kw_1959 kw_1960 kw_129 kw_1961 pd_X12_within rfl hl.1 rfl (Nat.le_of_ble_eq_true rfl) ⟨Nat.le_of_ble_eq_true rfl, Nat.le_of_ble_eq_true rfl⟩ dX12_forty_86) (fun r_48 σ_47 H locs hw h => ?_)
                obtain ⟨g_49, hwt, hwf⟩ := hw
                refine j_if_ne (tgt := 94) X g_49 dX12_forty_89 (by decide) (fun c_62 => ?_) (fun c_62 => ?_)
                · have hw := hwt c_62
                  refine lv_aload_n X.1 X.2.1 dX12_forty_94 rfl (lv_at hl 0 rfl) ?_
                  refine lv_iload_n X.1 X.2.1 dX12_forty_95 rfl (lv_at hl 1 rfl) ?_
                  refine lv_iload_n X.1 X.2.1 dX12_forty_96 rfl (lv_at hl 2 rfl) ?_
                  refine j_iadd X dX12_forty_97 ?_
                  refine lv_iload_n X.1 X.2.1 dX12_forty_98 rfl (lv_at hl 3 rfl) ?_
                  refine j_iadd X dX12_forty_99 ?_
                  refine lv_iload X.1 X.2.1 dX12_forty_100 (lv_at hl 4 rfl) ?_
                  refine j_iadd X dX12_forty_102 ?_
                  refine r_put (ci := 12) X inw_12 tyX12 tyX12_ok nmX12 h (hF.1 12 rfl).1 rfl rfl 94 (by decide) kw_1732 rfl rfl rfl (Nat.le_of_ble_eq_true rfl) rfl rfl dX12_forty_103 (fun H locs h => ?_)
                  obtain ⟨σ_50, eσ_50⟩ : ∃ z : St, z = st σ_47 12 0 94 (((x1 + x2) + x3) + x4) := ⟨_, rfl⟩
                  rw [← eσ_50] at h
                  have hw := hw σ_50 eσ_50
                  refine lv_aload_n X.1 X.2.1 dX12_forty_106 rfl (lv_at hl 0 rfl) ?_
                  refine lv_iload X.1 X.2.1 dX12_forty_107 (lv_at hl 5 rfl) ?_
                  refine r_put (ci := 12) X inw_12 tyX12 tyX12_ok nmX12 h (hF.1 12 rfl).1 rfl rfl 95 (by decide) kw_1733 rfl rfl rfl (Nat.le_of_ble_eq_true rfl) rfl rfl dX12_forty_109 (fun H locs h => ?_)
                  obtain ⟨σ_51, eσ_51⟩ : ∃ z : St, z = st σ_50 12 0 95 x5 := ⟨_, rfl⟩
                  rw [← eσ_51] at h
                  have hw := hw σ_51 eσ_51
                  refine lv_aload_n X.1 X.2.1 dX12_forty_112 rfl (lv_at hl 0 rfl) ?_
                  refine lv_iload X.1 X.2.1 dX12_forty_113 (lv_at hl 6 rfl) ?_
                  refine r_put (ci := 12) X inw_12 tyX12 tyX12_ok nmX12 h (hF.1 12 rfl).1 rfl rfl 96 (by decide) kw_1734 rfl rfl rfl (Nat.le_of_ble_eq_true rfl) rfl rfl dX12_forty_115 (fun H locs h => ?_)
                  obtain ⟨σ_52, eσ_52⟩ : ∃ z : St, z = st σ_51 12 0 96 x6 := ⟨_, rfl⟩
                  rw [← eσ_52] at h
                  have hw := hw σ_52 eσ_52
                  refine lv_aload_n X.1 X.2.1 dX12_forty_118 rfl (lv_at hl 0 rfl) ?_
                  refine lv_iload X.1 X.2.1 dX12_forty_119 (lv_at hl 7 rfl) ?_
                  refine k_v h (r_V (C := RX12) (ci := 12) (As := [.int (iv x7)]) (rest := []) X h (c_X12_plansCuts l D ct ad L φ N0 σ_52 x7 _ hw) rfl rfl ⟨Nat.le_of_ble_eq_true rfl, Nat.le_of_ble_eq_true rfl⟩ kw_2395 kw_2397 kw_113 kw_129 kw_2398 ⟨rfl, pd_X12_plansCuts⟩ (hF.1 12 rfl).1 rfl rfl rfl hl.1 rfl (Nat.le_of_ble_eq_true rfl) ⟨Nat.le_of_ble_eq_true rfl, Nat.le_of_ble_eq_true rfl⟩ dX12_forty_121) (fun σ_53 H locs hw h => ?_)
                  refine lv_aload_n X.1 X.2.1 dX12_forty_124 rfl (lv_at hl 0 rfl) ?_
                  refine r_getR (ci := 12) X inw_12 h (hF.1 12 rfl).1 rfl rfl 90 (by decide) kw_1728 rfl ((hF.1 12 rfl).2 90) dX12_forty_125 ?_
                  refine lv_iload_n X.1 X.2.1 dX12_forty_128 rfl (lv_at hl 1 rfl) ?_
                  refine lv_iload_n X.1 X.2.1 dX12_forty_129 rfl (lv_at hl 2 rfl) ?_
                  refine lv_iload_n X.1 X.2.1 dX12_forty_130 rfl (lv_at hl 3 rfl) ?_
                  refine k_i h (r_S (As := [.int (iv x1), .int (iv x2), .int (iv x3)]) (rest := [.ref (ad 149 0)]) X h (c_X12_stateOf l D ct ad L φ N0 σ_53 x1 x2 x3 _ hw) rfl rfl ⟨Nat.le_of_ble_eq_true rfl, Nat.le_of_ble_eq_true rfl⟩ kw_2399 kw_2400 kw_129 kw_2401 pd_X12_stateOf rfl hl.1 rfl (Nat.le_of_ble_eq_true rfl) ⟨Nat.le_of_ble_eq_true rfl, Nat.le_of_ble_eq_true rfl⟩ dX12_forty_131) (fun r_55 σ_54 H locs hw h => ?_)
                  obtain ⟨g_56, g_57, hw⟩ := hw
                  refine r_iald (n := 19773) X h (hF.1 149 rfl).1 rfl (by decide) g_56 g_57 dX12_forty_134 ?_
                  refine j_bind (fun v_58 ev_58 => ?_)
                  have hw := hw v_58 ev_58
                  refine lv_istore (lv' := [(8, .int (iv v_58)), (0, .ref (ad 12 0)), (1, .int (iv x1)), (2, .int (iv x2)), (3, .int (iv x3)), (4, .int (iv x4)), (5, .int (iv x5)), (6, .int (iv x6)), (7, .int (iv x7))]) X.1 X.2.1 dX12_forty_135 hl (by decide) rfl (fun ls hl => ?_)
                  refine lv_iload X.1 X.2.1 dX12_forty_137 (lv_at hl 0 rfl) ?_
                  refine j_iconst X dX12_forty_139 ?_
                  obtain ⟨g_59, hwt, hwf⟩ := hw
                  refine j_cmp_ne (tgt := 146) X g_59 ⟨by decide, by decide⟩ dX12_forty_140 (by decide) (fun c_61 => ?_) (fun c_61 => ?_)
                  · have hw := hwt c_61
                    refine lv_aload_n X.1 X.2.1 dX12_forty_146 rfl (lv_at hl 1 rfl) ?_
                    refine j_iconst X dX12_forty_147 ?_
                    refine r_put (ci := 12) X inw_12 tyX12 tyX12_ok nmX12 h (hF.1 12 rfl).1 rfl rfl 93 (by decide) kw_1731 rfl rfl rfl (Nat.le_of_ble_eq_true rfl) rfl rfl dX12_forty_148 (fun H locs h => ?_)
                    obtain ⟨σ_60, eσ_60⟩ : ∃ z : St, z = st σ_54 12 0 93 1 := ⟨_, rfl⟩
                    rw [← eσ_60] at h
                    have hw := hw σ_60 eσ_60
                    refine lv_iload_n X.1 X.2.1 dX12_forty_151 rfl (lv_at hl 2 rfl) ?_
                    refine lv_istore (lv' := [(9, .int (iv x1)), (8, .int (iv v_58)), (0, .ref (ad 12 0)), (1, .int (iv x1)), (2, .int (iv x2)), (3, .int (iv x3)), (4, .int (iv x4)), (5, .int (iv x5)), (6, .int (iv x6)), (7, .int (iv x7))]) X.1 X.2.1 dX12_forty_152 hl (by decide) rfl (fun ls hl => ?_)
                    refine lv_iload_n X.1 X.2.1 dX12_forty_154 rfl (lv_at hl 4 rfl) ?_
                    refine lv_istore (lv' := [(10, .int (iv x2)), (9, .int (iv x1)), (8, .int (iv v_58)), (0, .ref (ad 12 0)), (1, .int (iv x1)), (2, .int (iv x2)), (3, .int (iv x3)), (4, .int (iv x4)), (5, .int (iv x5)), (6, .int (iv x6)), (7, .int (iv x7))]) X.1 X.2.1 dX12_forty_155 hl (by decide) rfl (fun ls hl => ?_)
                    refine lv_iload_n X.1 X.2.1 dX12_forty_157 rfl (lv_at hl 6 rfl) ?_
                    refine lv_istore (lv' := [(11, .int (iv x3)), (10, .int (iv x2)), (9, .int (iv x1)), (8, .int (iv v_58)), (0, .ref (ad 12 0)), (1, .int (iv x1)), (2, .int (iv x2)), (3, .int (iv x3)), (4, .int (iv x4)), (5, .int (iv x5)), (6, .int (iv x6)), (7, .int (iv x7))]) X.1 X.2.1 dX12_forty_158 hl (by decide) rfl (fun ls hl => ?_)
                    refine j_iconst X dX12_forty_160 ?_
                    refine lv_istore (lv' := [(12, .int (iv 0)), (11, .int (iv x3)), (10, .int (iv x2)), (9, .int (iv x1)), (8, .int (iv v_58)), (0, .ref (ad 12 0)), (1, .int (iv x1)), (2, .int (iv x2)), (3, .int (iv x3)), (4, .int (iv x4)), (5, .int (iv x5)), (6, .int (iv x6)), (7, .int (iv x7))]) X.1 X.2.1 dX12_forty_161 hl (by decide) rfl (fun ls hl => ?_)
                    exact hw.elim (fun n163 hw => lb_X12_forty_163 X n163 σ_60 v_58 x1 x2 x3 0 _ _ _ hw h (lv_sub hl [5, 4, 3, 2, 1, 0] rfl))
                  · have hw := hwf c_61
                    refine j_bipush X dX12_forty_143 (by decide) ?_
                    exact k_ir X rfl h hw dX12_forty_145
                · have hw := hwf c_62
                  refine j_iconst X dX12_forty_92 ?_
                  exact k_ir X rfl h hw dX12_forty_93
end
section
variable {p : Program} {l : Launch} {e : Env} {s : State} {m : MethodId} {args : Array Value} {below : List Frame} {meth : Method} {c : Code} {D : va_G} {ct : Nat → ClassId} {ad : Nat → Nat → Nat} {L : List (Nat × Nat)} {φ : Nat → Nat → Nat → Bool} {N0 : Nat}
variable {Q : Int → St → Prop}
theorem pd_X12_cutIn : yX12_cutIn.cls ≠ "java/lang/invoke/MethodHandle" ∧ yX12_cutIn.cls ≠ "java/lang/invoke/VarHandle" ∧ (parseMethodDescriptor yX12_cutIn.desc).map (fun d => d.parameters.length) = some 2 := by decide +kernel
set_option maxRecDepth 100000 in
set_option maxHeartbeats 4000000 in
theorem c_X12_cutIn (l : Launch) (D : va_G) (ct : Nat → ClassId) (ad : Nat → Nat → Nat) (L : List (Nat × Nat)) (φ : Nat → Nat → Nat → Bool) (N0 : Nat) (σ : St) (x1 : Int) (x2 : Int) (Q : Int → St → Prop) (hw : wp_X12_cutIn σ x1 x2 Q) : Met l yX12_cutIn (.code yX12_cutIn cX12_cutIn 3 (some .int) :: gw) ({ frames := 1, cells := 0, slots := 0, locals := 22 } : Room) (Pm D ct ad L φ N0 σ [.ref (ad 12 0), .int (iv x1), .int (iv x2)]) (Qi D ct ad L φ N0 Q) 0 0 (AA N0) := by
  refine m_of (by decide) (fun p e s m below meth c X hnm h => ?_)
  have hF := X.2.2.2.2.2.2.2.2.1
  have hl := lv_entry ([.ref (ad 12 0), .int (iv x1), .int (iv x2)]) (n := 3) (Nat.le_of_ble_eq_true rfl)
  rw [lg_entry_eq]
  generalize (lg_sl ([.ref (ad 12 0), .int (iv x1), .int (iv x2)]) ++ List.replicate (3 - (lg_sl ([.ref (ad 12 0), .int (iv x1), .int (iv x2)])).length) Slot.unset).toArray = ls at hl ⊢
  have hl : lv_has ls 3 [(0, .ref (ad 12 0)), (1, .int (iv x1)), (2, .int (iv x2))] := hl
  have h : Hs D ct ad L φ N0 s.heap σ s.heap [] := h
  unfold wp_X12_cutIn at hw
  refine lv_aload_n X.1 X.2.1 dX12_cutIn_0 rfl (lv_at hl 0 rfl) ?_
  refine j_iconst X dX12_cutIn_1 ?_
  refine r_put (ci := 12) X inw_12 tyX12 tyX12_ok nmX12 h (hF.1 12 rfl).1 rfl rfl 0 (by decide) kw_1638 rfl rfl rfl (Nat.le_of_ble_eq_true rfl) rfl rfl dX12_cutIn_2 (fun H locs h => ?_)
  obtain ⟨σ_1, eσ_1⟩ : ∃ z : St, z = st σ 12 0 0 0 := ⟨_, rfl⟩
  rw [← eσ_1] at h
  have hw := hw σ_1 eσ_1
  refine lv_aload_n X.1 X.2.1 dX12_cutIn_5 rfl (lv_at hl 0 rfl) ?_
  refine r_get (ci := 12) X inw_12 h (hF.1 12 rfl).1 rfl rfl 93 (by decide) kw_1731 rfl dX12_cutIn_6 ?_
  obtain ⟨g_2, hwt, hwf⟩ := hw
  refine j_if_eq (tgt := 31) X g_2 dX12_cutIn_9 (by decide) (fun c_17 => ?_) (fun c_17 => ?_)
  · have hw := hwt c_17
    refine j_iconst X dX12_cutIn_31 ?_
    refine lv_goto (tgt := 54) X.1 X.2.1 dX12_cutIn_32 (by decide) ?_
    exact k_ir X rfl h hw dX12_cutIn_54
  · have hw := hwf c_17
    refine lv_iload_n X.1 X.2.1 dX12_cutIn_12 rfl (lv_at hl 1 rfl) ?_
    refine j_iconst X dX12_cutIn_13 ?_
    refine j_bipush X dX12_cutIn_14 (by decide) ?_
    refine k_i h (r_S (As := [.int (iv x1), .int (iv 0), .int (iv 7)]) (rest := []) X h (c_X12_within l D ct ad L φ N0 σ_1 x1 0 7 _ hw) rfl rfl ⟨Nat.le_of_ble_eq_true rfl, Nat.le_of_ble_eq_true rfl⟩ kw_1959 kw_1960 kw_129 kw_1961 pd_X12_within rfl hl.1 rfl (Nat.le_of_ble_eq_true rfl) ⟨Nat.le_of_ble_eq_true rfl, Nat.le_of_ble_eq_true rfl⟩ dX12_cutIn_16) (fun r_4 σ_3 H locs hw h => ?_)
    obtain ⟨g_5, hwt, hwf⟩ := hw
    refine j_if_eq (tgt := 31) X g_5 dX12_cutIn_19 (by decide) (fun c_16 => ?_) (fun c_16 => ?_)
    · have hw := hwt c_16
      refine j_iconst X dX12_cutIn_31 ?_
      refine lv_goto (tgt := 54) X.1 X.2.1 dX12_cutIn_32 (by decide) ?_
      exact k_ir X rfl h hw dX12_cutIn_54
    · have hw := hwf c_16
      refine lv_iload_n X.1 X.2.1 dX12_cutIn_22 rfl (lv_at hl 2 rfl) ?_
      refine j_iconst X dX12_cutIn_23 ?_
      refine j_iconst X dX12_cutIn_24 ?_
      refine k_i h (r_S (As := [.int (iv x2), .int (iv 0), .int (iv 1)]) (rest := []) X h (c_X12_within l D ct ad L φ N0 σ_3 x2 0 1 _ hw) rfl rfl ⟨Nat.le_of_ble_eq_true rfl, Nat.le_of_ble_eq_true rfl⟩ kw_1959 kw_1960 kw_129 kw_1961 pd_X12_within rfl hl.1 rfl (Nat.le_of_ble_eq_true rfl) ⟨Nat.le_of_ble_eq_true rfl, Nat.le_of_ble_eq_true rfl⟩ dX12_cutIn_25) (fun r_7 σ_6 H locs hw h => ?_)
      obtain ⟨g_8, hwt, hwf⟩ := hw
      refine j_if_ne (tgt := 35) X g_8 dX12_cutIn_28 (by decide) (fun c_15 => ?_) (fun c_15 => ?_)
      · have hw := hwt c_15
        refine lv_iload_n X.1 X.2.1 dX12_cutIn_35 rfl (lv_at hl 2 rfl) ?_
        obtain ⟨g_9, hwt, hwf⟩ := hw
        refine j_if_ne (tgt := 48) X g_9 dX12_cutIn_36 (by decide) (fun c_14 => ?_) (fun c_14 => ?_)
        · have hw := hwt c_14
          refine lv_aload_n X.1 X.2.1 dX12_cutIn_48 rfl (lv_at hl 0 rfl) ?_
          refine r_getR (ci := 12) X inw_12 h (hF.1 12 rfl).1 rfl rfl 92 (by decide) kw_1730 rfl ((hF.1 12 rfl).2 92) dX12_cutIn_49 ?_
          refine lv_iload_n X.1 X.2.1 dX12_cutIn_52 rfl (lv_at hl 1 rfl) ?_
          obtain ⟨g_10, g_11, hw⟩ := hw
          refine r_iald (n := 8) X h (hF.1 151 rfl).1 rfl (by decide) g_10 g_11 dX12_cutIn_53 ?_
          exact k_ir X rfl h hw dX12_cutIn_54
        · have hw := hwf c_14
          refine lv_aload_n X.1 X.2.1 dX12_cutIn_39 rfl (lv_at hl 0 rfl) ?_
          refine r_getR (ci := 12) X inw_12 h (hF.1 12 rfl).1 rfl rfl 91 (by decide) kw_1729 rfl ((hF.1 12 rfl).2 91) dX12_cutIn_40 ?_
          refine lv_iload_n X.1 X.2.1 dX12_cutIn_43 rfl (lv_at hl 1 rfl) ?_
          obtain ⟨g_12, g_13, hw⟩ := hw
          refine r_iald (n := 8) X h (hF.1 150 rfl).1 rfl (by decide) g_12 g_13 dX12_cutIn_44 ?_
          refine lv_goto (tgt := 54) X.1 X.2.1 dX12_cutIn_45 (by decide) ?_
          exact k_ir X rfl h hw dX12_cutIn_54
      · have hw := hwf c_15
        refine j_iconst X dX12_cutIn_31 ?_
        refine lv_goto (tgt := 54) X.1 X.2.1 dX12_cutIn_32 (by decide) ?_
        exact k_ir X rfl h hw dX12_cutIn_54
end
section
variable {p : Program} {l : Launch} {e : Env} {s : State} {m : MethodId} {args : Array Value} {below : List Frame} {meth : Method} {c : Code} {D : va_G} {ct : Nat → ClassId} {ad : Nat → Nat → Nat} {L : List (Nat × Nat)} {φ : Nat → Nat → Nat → Bool} {N0 : Nat}
variable {Q : Int → St → Prop}
set_option maxRecDepth 100000 in
set_option maxHeartbeats 4000000 in
theorem lb_X12_row_43 (X : Cx p s m meth c args cX12_row 5 (some .boolean) RX12 D ct L φ N0) : ∀ (n : Nat) (σ : St) (x1 : Int) (x4 : Int) (H : Heap) (locs : List Loc) (ls : Array Slot), wp_X12_row_43 Q n σ x1 x4 → Hs D ct ad L φ N0 s.heap σ H locs → lv_has ls 5 [(0, .ref (ad 12 0)), (1, .int (iv x1)), (4, .int (iv x4))] → W p l e ({ frames := 1, cells := 0, slots := 0, locals := 22 } : Room) s m args below meth c H locs 0 0 (MQ below (Qi D ct ad L φ N0 Q) args s 0 0 (AA N0)) (F0 m 43 ls []) := by
  have hF := X.2.2.2.2.2.2.2.2.1
  intro n
  induction n with
  | zero => intro σ x1 x4 H locs ls hw; exact hw.elim
  | succ n ih =>
    intro σ x1 x4 H locs ls hw h hl
    unfold wp_X12_row_43 at hw
    refine lv_iload X.1 X.2.1 dX12_row_43 (lv_at hl 2 rfl) ?_
    refine j_bipush X dX12_row_45 (by decide) ?_
    obtain ⟨g_1, hwt, hwf⟩ := hw
    refine j_cmp_ge (tgt := 82) X g_1 ⟨by decide, by decide⟩ dX12_row_47 (by decide) (fun c_8 => ?_) (fun c_8 => ?_)
    · have hw := hwt c_8
      refine j_iconst X dX12_row_82 ?_
      exact k_ir X rfl h hw dX12_row_83
    · have hw := hwf c_8
      refine lv_aload_n X.1 X.2.1 dX12_row_50 rfl (lv_at hl 0 rfl) ?_
      refine r_getR (ci := 12) X inw_12 h (hF.1 12 rfl).1 rfl rfl 99 (by decide) kw_1737 rfl ((hF.1 12 rfl).2 99) dX12_row_51 ?_
      refine j_bipush X dX12_row_54 (by decide) ?_
      refine lv_iload_n X.1 X.2.1 dX12_row_56 rfl (lv_at hl 1 rfl) ?_
      refine j_imul X dX12_row_57 ?_
      refine lv_iload X.1 X.2.1 dX12_row_58 (lv_at hl 2 rfl) ?_
      refine j_iadd X dX12_row_60 ?_
      refine j_iconst X dX12_row_61 ?_
      obtain ⟨g_2, g_3, hw⟩ := hw
      refine r_iast (n := 160) X h (hF.1 154 rfl).1 (fun _ => rfl) (by decide) g_2 g_3 rfl dX12_row_62 (fun H locs h => ?_)
      obtain ⟨σ_4, eσ_4⟩ : ∃ z : St, z = st σ 154 0 (Int.toNat ((40 * x1) + x4)) 0 := ⟨_, rfl⟩
      rw [← eσ_4] at h
      have hw := hw σ_4 eσ_4
      refine lv_aload_n X.1 X.2.1 dX12_row_63 rfl (lv_at hl 0 rfl) ?_
      refine r_getR (ci := 12) X inw_12 h (hF.1 12 rfl).1 rfl rfl 100 (by decide) kw_1738 rfl ((hF.1 12 rfl).2 100) dX12_row_64 ?_
      refine j_bipush X dX12_row_67 (by decide) ?_
      refine lv_iload_n X.1 X.2.1 dX12_row_69 rfl (lv_at hl 1 rfl) ?_
      refine j_imul X dX12_row_70 ?_
      refine lv_iload X.1 X.2.1 dX12_row_71 (lv_at hl 2 rfl) ?_
      refine j_iadd X dX12_row_73 ?_
      refine j_iconst X dX12_row_74 ?_
      obtain ⟨g_5, g_6, hw⟩ := hw
      refine r_zast (n := 160) X h (hF.1 155 rfl).1 (fun _ => rfl) (by decide) g_5 g_6 rfl (by decide) dX12_row_75 (fun H locs h => ?_)
      obtain ⟨σ_7, eσ_7⟩ : ∃ z : St, z = st σ_4 155 0 (Int.toNat ((40 * x1) + x4)) 0 := ⟨_, rfl⟩
      rw [← eσ_7] at h
      have hw := hw σ_7 eσ_7
      refine j_iinc (kk9 := 2) (lv' := [(4, .int (iv (x4 + 1))), (0, .ref (ad 12 0)), (1, .int (iv x1))]) X dX12_row_76 hl rfl (by decide) rfl (fun ls hl => ?_)
      refine lv_goto (tgt := 43) X.1 X.2.1 dX12_row_79 (by decide) ?_
      exact ih σ_7 x1 (x4 + 1) _ _ _ hw h (lv_sub hl [1, 2, 0] rfl)
theorem pd_X12_row : yX12_row.cls ≠ "java/lang/invoke/MethodHandle" ∧ yX12_row.cls ≠ "java/lang/invoke/VarHandle" ∧ (parseMethodDescriptor yX12_row.desc).map (fun d => d.parameters.length) = some 3 := by decide +kernel
set_option maxRecDepth 100000 in
set_option maxHeartbeats 4000000 in
theorem c_X12_row (l : Launch) (D : va_G) (ct : Nat → ClassId) (ad : Nat → Nat → Nat) (L : List (Nat × Nat)) (φ : Nat → Nat → Nat → Bool) (N0 : Nat) (σ : St) (x1 : Int) (x2 : Int) (x3 : Int) (Q : Int → St → Prop) (hw : wp_X12_row σ x1 x2 x3 Q) : Met l yX12_row (.code yX12_row cX12_row 5 (some .boolean) :: gw) ({ frames := 1, cells := 0, slots := 0, locals := 22 } : Room) (Pm D ct ad L φ N0 σ [.ref (ad 12 0), .int (iv x1), .int (iv x2), .int (iv x3)]) (Qi D ct ad L φ N0 Q) 0 0 (AA N0) := by
  refine m_of (by decide) (fun p e s m below meth c X hnm h => ?_)
  have hF := X.2.2.2.2.2.2.2.2.1
  have hl := lv_entry ([.ref (ad 12 0), .int (iv x1), .int (iv x2), .int (iv x3)]) (n := 5) (Nat.le_of_ble_eq_true rfl)
  rw [lg_entry_eq]
  generalize (lg_sl ([.ref (ad 12 0), .int (iv x1), .int (iv x2), .int (iv x3)]) ++ List.replicate (5 - (lg_sl ([.ref (ad 12 0), .int (iv x1), .int (iv x2), .int (iv x3)])).length) Slot.unset).toArray = ls at hl ⊢
  have hl : lv_has ls 5 [(0, .ref (ad 12 0)), (1, .int (iv x1)), (2, .int (iv x2)), (3, .int (iv x3))] := hl
  have h : Hs D ct ad L φ N0 s.heap σ s.heap [] := h
  unfold wp_X12_row at hw
  refine lv_aload_n X.1 X.2.1 dX12_row_0 rfl (lv_at hl 0 rfl) ?_
  refine j_iconst X dX12_row_1 ?_
  refine r_put (ci := 12) X inw_12 tyX12 tyX12_ok nmX12 h (hF.1 12 rfl).1 rfl rfl 0 (by decide) kw_1638 rfl rfl rfl (Nat.le_of_ble_eq_true rfl) rfl rfl dX12_row_2 (fun H locs h => ?_)
  obtain ⟨σ_9, eσ_9⟩ : ∃ z : St, z = st σ 12 0 0 0 := ⟨_, rfl⟩
  rw [← eσ_9] at h
  have hw := hw σ_9 eσ_9
  refine lv_iload_n X.1 X.2.1 dX12_row_5 rfl (lv_at hl 1 rfl) ?_
  refine j_iconst X dX12_row_6 ?_
  refine j_iconst X dX12_row_7 ?_
  refine k_i h (r_S (As := [.int (iv x1), .int (iv 0), .int (iv 3)]) (rest := []) X h (c_X12_within l D ct ad L φ N0 σ_9 x1 0 3 _ hw) rfl rfl ⟨Nat.le_of_ble_eq_true rfl, Nat.le_of_ble_eq_true rfl⟩ kw_1959 kw_1960 kw_129 kw_1961 pd_X12_within rfl hl.1 rfl (Nat.le_of_ble_eq_true rfl) ⟨Nat.le_of_ble_eq_true rfl, Nat.le_of_ble_eq_true rfl⟩ dX12_row_8) (fun r_11 σ_10 H locs hw h => ?_)
  obtain ⟨g_12, hwt, hwf⟩ := hw
  refine j_if_eq (tgt := 24) X g_12 dX12_row_11 (by decide) (fun c_24 => ?_) (fun c_24 => ?_)
  · have hw := hwt c_24
    refine j_iconst X dX12_row_24 ?_
    exact k_ir X rfl h hw dX12_row_25
  · have hw := hwf c_24
    refine lv_iload_n X.1 X.2.1 dX12_row_14 rfl (lv_at hl 3 rfl) ?_
    refine j_iconst X dX12_row_15 ?_
    refine j_bipush X dX12_row_16 (by decide) ?_
    refine k_i h (r_S (As := [.int (iv x3), .int (iv 0), .int (iv 40)]) (rest := []) X h (c_X12_within l D ct ad L φ N0 σ_10 x3 0 40 _ hw) rfl rfl ⟨Nat.le_of_ble_eq_true rfl, Nat.le_of_ble_eq_true rfl⟩ kw_1959 kw_1960 kw_129 kw_1961 pd_X12_within rfl hl.1 rfl (Nat.le_of_ble_eq_true rfl) ⟨Nat.le_of_ble_eq_true rfl, Nat.le_of_ble_eq_true rfl⟩ dX12_row_18) (fun r_14 σ_13 H locs hw h => ?_)
    obtain ⟨g_15, hwt, hwf⟩ := hw
    refine j_if_ne (tgt := 26) X g_15 dX12_row_21 (by decide) (fun c_23 => ?_) (fun c_23 => ?_)
    · have hw := hwt c_23
      refine lv_aload_n X.1 X.2.1 dX12_row_26 rfl (lv_at hl 0 rfl) ?_
      refine r_getR (ci := 12) X inw_12 h (hF.1 12 rfl).1 rfl rfl 97 (by decide) kw_1735 rfl ((hF.1 12 rfl).2 97) dX12_row_27 ?_
      refine lv_iload_n X.1 X.2.1 dX12_row_30 rfl (lv_at hl 1 rfl) ?_
      refine lv_iload_n X.1 X.2.1 dX12_row_31 rfl (lv_at hl 3 rfl) ?_
      obtain ⟨g_16, g_17, hw⟩ := hw
      refine r_iast (n := 4) X h (hF.1 152 rfl).1 (fun _ => rfl) (by decide) g_16 g_17 rfl dX12_row_32 (fun H locs h => ?_)
      obtain ⟨σ_18, eσ_18⟩ : ∃ z : St, z = st σ_13 152 0 (Int.toNat x1) x3 := ⟨_, rfl⟩
      rw [← eσ_18] at h
      have hw := hw σ_18 eσ_18
      refine lv_aload_n X.1 X.2.1 dX12_row_33 rfl (lv_at hl 0 rfl) ?_
      refine r_getR (ci := 12) X inw_12 h (hF.1 12 rfl).1 rfl rfl 98 (by decide) kw_1736 rfl ((hF.1 12 rfl).2 98) dX12_row_34 ?_
      refine lv_iload_n X.1 X.2.1 dX12_row_37 rfl (lv_at hl 1 rfl) ?_
      refine lv_iload_n X.1 X.2.1 dX12_row_38 rfl (lv_at hl 2 rfl) ?_
      obtain ⟨g_19, g_20, g_21, hw⟩ := hw
      refine r_zast (n := 4) X h (hF.1 153 rfl).1 (fun _ => rfl) (by decide) g_19 g_20 rfl (nb_v g_21) dX12_row_39 (fun H locs h => ?_)
      obtain ⟨σ_22, eσ_22⟩ : ∃ z : St, z = st σ_18 153 0 (Int.toNat x1) x2 := ⟨_, rfl⟩
      rw [← eσ_22] at h
      have hw := hw σ_22 eσ_22
      refine j_iconst X dX12_row_40 ?_
      refine lv_istore (lv' := [(4, .int (iv 0)), (0, .ref (ad 12 0)), (1, .int (iv x1)), (2, .int (iv x2)), (3, .int (iv x3))]) X.1 X.2.1 dX12_row_41 hl (by decide) rfl (fun ls hl => ?_)
      exact hw.elim (fun n43 hw => lb_X12_row_43 X n43 σ_22 x1 0 _ _ _ hw h (lv_sub hl [1, 2, 0] rfl))
    · have hw := hwf c_23
      refine j_iconst X dX12_row_24 ?_
      exact k_ir X rfl h hw dX12_row_25
end
section
variable {p : Program} {l : Launch} {e : Env} {s : State} {m : MethodId} {args : Array Value} {below : List Frame} {meth : Method} {c : Code} {D : va_G} {ct : Nat → ClassId} {ad : Nat → Nat → Nat} {L : List (Nat × Nat)} {φ : Nat → Nat → Nat → Bool} {N0 : Nat}
variable {Q : Int → St → Prop}
theorem pd_X12_isPlace : yX12_isPlace.cls ≠ "java/lang/invoke/MethodHandle" ∧ yX12_isPlace.cls ≠ "java/lang/invoke/VarHandle" ∧ (parseMethodDescriptor yX12_isPlace.desc).map (fun d => d.parameters.length) = some 2 := by decide +kernel
set_option maxRecDepth 100000 in
set_option maxHeartbeats 4000000 in
theorem c_X12_isPlace (l : Launch) (D : va_G) (ct : Nat → ClassId) (ad : Nat → Nat → Nat) (L : List (Nat × Nat)) (φ : Nat → Nat → Nat → Bool) (N0 : Nat) (σ : St) (x1 : Int) (x2 : Int) (Q : Int → St → Prop) (hw : wp_X12_isPlace σ x1 x2 Q) : Met l yX12_isPlace (.code yX12_isPlace cX12_isPlace 3 (some .boolean) :: gw) ({ frames := 1, cells := 0, slots := 0, locals := 22 } : Room) (Pm D ct ad L φ N0 σ [.ref (ad 12 0), .int (iv x1), .int (iv x2)]) (Qi D ct ad L φ N0 Q) 0 0 (AA N0) := by
  refine m_of (by decide) (fun p e s m below meth c X hnm h => ?_)
  have hF := X.2.2.2.2.2.2.2.2.1
  have hl := lv_entry ([.ref (ad 12 0), .int (iv x1), .int (iv x2)]) (n := 3) (Nat.le_of_ble_eq_true rfl)
  rw [lg_entry_eq]
  generalize (lg_sl ([.ref (ad 12 0), .int (iv x1), .int (iv x2)]) ++ List.replicate (3 - (lg_sl ([.ref (ad 12 0), .int (iv x1), .int (iv x2)])).length) Slot.unset).toArray = ls at hl ⊢
  have hl : lv_has ls 3 [(0, .ref (ad 12 0)), (1, .int (iv x1)), (2, .int (iv x2))] := hl
  have h : Hs D ct ad L φ N0 s.heap σ s.heap [] := h
  unfold wp_X12_isPlace at hw
  refine lv_iload_n X.1 X.2.1 dX12_isPlace_0 rfl (lv_at hl 1 rfl) ?_
  refine j_iconst X dX12_isPlace_1 ?_
  refine j_iconst X dX12_isPlace_2 ?_
  refine k_i h (r_S (As := [.int (iv x1), .int (iv 0), .int (iv 3)]) (rest := []) X h (c_X12_within l D ct ad L φ N0 σ x1 0 3 _ hw) rfl rfl ⟨Nat.le_of_ble_eq_true rfl, Nat.le_of_ble_eq_true rfl⟩ kw_1959 kw_1960 kw_129 kw_1961 pd_X12_within rfl hl.1 rfl (Nat.le_of_ble_eq_true rfl) ⟨Nat.le_of_ble_eq_true rfl, Nat.le_of_ble_eq_true rfl⟩ dX12_isPlace_3) (fun r_2 σ_1 H locs hw h => ?_)
  obtain ⟨g_3, hwt, hwf⟩ := hw
  refine j_if_eq (tgt := 39) X g_3 dX12_isPlace_6 (by decide) (fun c_14 => ?_) (fun c_14 => ?_)
  · have hw := hwt c_14
    refine j_iconst X dX12_isPlace_39 ?_
    exact k_ir X rfl h hw dX12_isPlace_40
  · have hw := hwf c_14
    refine lv_aload_n X.1 X.2.1 dX12_isPlace_9 rfl (lv_at hl 0 rfl) ?_
    refine r_getR (ci := 12) X inw_12 h (hF.1 12 rfl).1 rfl rfl 97 (by decide) kw_1735 rfl ((hF.1 12 rfl).2 97) dX12_isPlace_10 ?_
    refine lv_iload_n X.1 X.2.1 dX12_isPlace_13 rfl (lv_at hl 1 rfl) ?_
    obtain ⟨g_4, g_5, hw⟩ := hw
    refine r_iald (n := 4) X h (hF.1 152 rfl).1 rfl (by decide) g_4 g_5 dX12_isPlace_14 ?_
    refine j_iconst X dX12_isPlace_15 ?_
    obtain ⟨g_6, hwt, hwf⟩ := hw
    refine j_cmp_eq (tgt := 39) X g_6 ⟨by decide, by decide⟩ dX12_isPlace_16 (by decide) (fun c_13 => ?_) (fun c_13 => ?_)
    · have hw := hwt c_13
      refine j_iconst X dX12_isPlace_39 ?_
      exact k_ir X rfl h hw dX12_isPlace_40
    · have hw := hwf c_13
      refine lv_iload_n X.1 X.2.1 dX12_isPlace_19 rfl (lv_at hl 2 rfl) ?_
      refine j_iconst X dX12_isPlace_20 ?_
      refine lv_aload_n X.1 X.2.1 dX12_isPlace_21 rfl (lv_at hl 0 rfl) ?_
      refine r_getR (ci := 12) X inw_12 h (hF.1 12 rfl).1 rfl rfl 97 (by decide) kw_1735 rfl ((hF.1 12 rfl).2 97) dX12_isPlace_22 ?_
      refine lv_iload_n X.1 X.2.1 dX12_isPlace_25 rfl (lv_at hl 1 rfl) ?_
      obtain ⟨g_7, g_8, hw⟩ := hw
      refine r_iald (n := 4) X h (hF.1 152 rfl).1 rfl (by decide) g_7 g_8 dX12_isPlace_26 ?_
      refine j_iconst X dX12_isPlace_27 ?_
      refine j_isub X dX12_isPlace_28 ?_
      refine k_i h (r_S (As := [.int (iv x2), .int (iv 0), .int (iv ((σ_1 152 0 (Int.toNat x1)) - 1))]) (rest := []) X h (c_X12_within l D ct ad L φ N0 σ_1 x2 0 ((σ_1 152 0 (Int.toNat x1)) - 1) _ hw) rfl rfl ⟨Nat.le_of_ble_eq_true rfl, Nat.le_of_ble_eq_true rfl⟩ kw_1959 kw_1960 kw_129 kw_1961 pd_X12_within rfl hl.1 rfl (Nat.le_of_ble_eq_true rfl) ⟨Nat.le_of_ble_eq_true rfl, Nat.le_of_ble_eq_true rfl⟩ dX12_isPlace_29) (fun r_10 σ_9 H locs hw h => ?_)
      obtain ⟨g_11, hwt, hwf⟩ := hw
      refine j_if_eq (tgt := 39) X g_11 dX12_isPlace_32 (by decide) (fun c_12 => ?_) (fun c_12 => ?_)
      · have hw := hwt c_12
        refine j_iconst X dX12_isPlace_39 ?_
        exact k_ir X rfl h hw dX12_isPlace_40
      · have hw := hwf c_12
        refine j_iconst X dX12_isPlace_35 ?_
        refine lv_goto (tgt := 40) X.1 X.2.1 dX12_isPlace_36 (by decide) ?_
        exact k_ir X rfl h hw dX12_isPlace_40
end
section
variable {p : Program} {l : Launch} {e : Env} {s : State} {m : MethodId} {args : Array Value} {below : List Frame} {meth : Method} {c : Code} {D : va_G} {ct : Nat → ClassId} {ad : Nat → Nat → Nat} {L : List (Nat × Nat)} {φ : Nat → Nat → Nat → Bool} {N0 : Nat}
variable {Q : Int → St → Prop}
set_option maxRecDepth 100000 in
set_option maxHeartbeats 4000000 in
theorem lb_X12_write_110 (X : Cx p s m meth c args cX12_write 5 (some .boolean) RX12 D ct L φ N0) (σ : St) (y0 : Int) (y1 : Int) (H : Heap) (locs : List Loc) (ls : Array Slot) (hw : wp_X12_write_110 Q σ y0 y1) (h : Hs D ct ad L φ N0 s.heap σ H locs) (hl : lv_has ls 5 []) : W p l e ({ frames := 2, cells := 0, slots := 0, locals := 44 } : Room) s m args below meth c H locs 0 0 (MQ below (Qi D ct ad L φ N0 Q) args s 0 0 (AA N0)) (F0 m 110 ls [.int (iv y0), .int (iv y1), .ref (ad 154 0)]) := by
  have hF := X.2.2.2.2.2.2.2.2.1
  unfold wp_X12_write_110 at hw
  obtain ⟨g_1, g_2, hw⟩ := hw
  refine r_iast (n := 160) X h (hF.1 154 rfl).1 (fun _ => rfl) (by decide) g_1 g_2 rfl dX12_write_110 (fun H locs h => ?_)
  obtain ⟨σ_3, eσ_3⟩ : ∃ z : St, z = st σ 154 0 (Int.toNat y1) y0 := ⟨_, rfl⟩
  rw [← eσ_3] at h
  have hw := hw σ_3 eσ_3
  refine j_iconst X dX12_write_111 ?_
  exact k_ir X rfl h hw dX12_write_112
set_option maxRecDepth 100000 in
set_option maxHeartbeats 4000000 in
theorem lb_X12_write_78 (X : Cx p s m meth c args cX12_write 5 (some .boolean) RX12 D ct L φ N0) (σ : St) (x1 : Int) (x2 : Int) (x4 : Int) (y0 : Int) (y1 : Int) (H : Heap) (locs : List Loc) (ls : Array Slot) (hw : wp_X12_write_78 Q σ x1 x2 x4 y0 y1) (h : Hs D ct ad L φ N0 s.heap σ H locs) (hl : lv_has ls 5 [(0, .ref (ad 12 0)), (1, .int (iv x1)), (2, .int (iv x2)), (4, .int (iv x4))]) : W p l e ({ frames := 2, cells := 0, slots := 0, locals := 44 } : Room) s m args below meth c H locs 0 0 (MQ below (Qi D ct ad L φ N0 Q) args s 0 0 (AA N0)) (F0 m 78 ls [.int (iv y0), .int (iv y1), .ref (ad 155 0)]) := by
  have hF := X.2.2.2.2.2.2.2.2.1
  unfold wp_X12_write_78 at hw
  obtain ⟨g_4, g_5, g_6, hw⟩ := hw
  refine r_zast (n := 160) X h (hF.1 155 rfl).1 (fun _ => rfl) (by decide) g_4 g_5 rfl (nb_v g_6) dX12_write_78 (fun H locs h => ?_)
  obtain ⟨σ_7, eσ_7⟩ : ∃ z : St, z = st σ 155 0 (Int.toNat y1) y0 := ⟨_, rfl⟩
  rw [← eσ_7] at h
  have hw := hw σ_7 eσ_7
  refine lv_aload_n X.1 X.2.1 dX12_write_79 rfl (lv_at hl 0 rfl) ?_
  refine r_getR (ci := 12) X inw_12 h (hF.1 12 rfl).1 rfl rfl 99 (by decide) kw_1737 rfl ((hF.1 12 rfl).2 99) dX12_write_80 ?_
  refine j_bipush X dX12_write_83 (by decide) ?_
  refine lv_iload_n X.1 X.2.1 dX12_write_85 rfl (lv_at hl 1 rfl) ?_
  refine j_imul X dX12_write_86 ?_
  refine lv_iload_n X.1 X.2.1 dX12_write_87 rfl (lv_at hl 2 rfl) ?_
  refine j_iadd X dX12_write_88 ?_
  refine lv_aload_n X.1 X.2.1 dX12_write_89 rfl (lv_at hl 0 rfl) ?_
  refine r_getR (ci := 12) X inw_12 h (hF.1 12 rfl).1 rfl rfl 98 (by decide) kw_1736 rfl ((hF.1 12 rfl).2 98) dX12_write_90 ?_
  refine lv_iload_n X.1 X.2.1 dX12_write_93 rfl (lv_at hl 1 rfl) ?_
  obtain ⟨g_8, g_9, hw⟩ := hw
  refine r_zald (n := 4) X h (hF.1 153 rfl).1 rfl (by decide) g_8 g_9 dX12_write_94 ?_
  obtain ⟨g_10, hwt, hwf⟩ := hw
  refine j_if_eq (tgt := 105) X g_10 dX12_write_95 (by decide) (fun c_11 => ?_) (fun c_11 => ?_)
  · have hw := hwt c_11
    refine j_bipush X dX12_write_105 (by decide) ?_
    refine lv_iload X.1 X.2.1 dX12_write_107 (lv_at hl 3 rfl) ?_
    refine j_imul X dX12_write_109 ?_
    exact lb_X12_write_110 X σ_7 (8 * x4) ((40 * x1) + x2) _ _ _ hw h (lv_sub hl [] rfl)
  · have hw := hwf c_11
    refine j_iconst X dX12_write_98 ?_
    refine lv_iload X.1 X.2.1 dX12_write_99 (lv_at hl 3 rfl) ?_
    refine j_imul X dX12_write_101 ?_
    refine lv_goto (tgt := 110) X.1 X.2.1 dX12_write_102 (by decide) ?_
    exact lb_X12_write_110 X σ_7 (2 * x4) ((40 * x1) + x2) _ _ _ hw h (lv_sub hl [] rfl)
set_option maxRecDepth 100000 in
set_option maxHeartbeats 4000000 in
theorem lb_X12_write_53 (X : Cx p s m meth c args cX12_write 5 (some .boolean) RX12 D ct L φ N0) (σ : St) (x1 : Int) (x2 : Int) (y0 : Int) (H : Heap) (locs : List Loc) (ls : Array Slot) (hw : wp_X12_write_53 Q σ x1 x2 y0) (h : Hs D ct ad L φ N0 s.heap σ H locs) (hl : lv_has ls 5 [(0, .ref (ad 12 0)), (1, .int (iv x1)), (2, .int (iv x2))]) : W p l e ({ frames := 2, cells := 0, slots := 0, locals := 44 } : Room) s m args below meth c H locs 0 0 (MQ below (Qi D ct ad L φ N0 Q) args s 0 0 (AA N0)) (F0 m 53 ls [.int (iv y0)]) := by
  have hF := X.2.2.2.2.2.2.2.2.1
  unfold wp_X12_write_53 at hw
  refine lv_istore (lv' := [(4, .int (iv y0)), (0, .ref (ad 12 0)), (1, .int (iv x1)), (2, .int (iv x2))]) X.1 X.2.1 dX12_write_53 hl (by decide) rfl (fun ls hl => ?_)
  refine lv_aload_n X.1 X.2.1 dX12_write_55 rfl (lv_at hl 1 rfl) ?_
  refine r_getR (ci := 12) X inw_12 h (hF.1 12 rfl).1 rfl rfl 100 (by decide) kw_1738 rfl ((hF.1 12 rfl).2 100) dX12_write_56 ?_
  refine j_bipush X dX12_write_59 (by decide) ?_
  refine lv_iload_n X.1 X.2.1 dX12_write_61 rfl (lv_at hl 2 rfl) ?_
  refine j_imul X dX12_write_62 ?_
  refine lv_iload_n X.1 X.2.1 dX12_write_63 rfl (lv_at hl 3 rfl) ?_
  refine j_iadd X dX12_write_64 ?_
  refine lv_iload X.1 X.2.1 dX12_write_65 (lv_at hl 0 rfl) ?_
  refine j_sipush X dX12_write_67 (by decide) ?_
  obtain ⟨g_12, hwt, hwf⟩ := hw
  refine j_cmp_ne (tgt := 77) X g_12 ⟨by decide, by decide⟩ dX12_write_70 (by decide) (fun c_13 => ?_) (fun c_13 => ?_)
  · have hw := hwt c_13
    refine j_iconst X dX12_write_77 ?_
    exact lb_X12_write_78 X σ x1 x2 y0 0 ((40 * x1) + x2) _ _ _ hw h (lv_sub hl [1, 2, 3, 0] rfl)
  · have hw := hwf c_13
    refine j_iconst X dX12_write_73 ?_
    refine lv_goto (tgt := 78) X.1 X.2.1 dX12_write_74 (by decide) ?_
    exact lb_X12_write_78 X σ x1 x2 y0 1 ((40 * x1) + x2) _ _ _ hw h (lv_sub hl [1, 2, 3, 0] rfl)
set_option maxRecDepth 100000 in
set_option maxHeartbeats 4000000 in
theorem lb_X12_write_38 (X : Cx p s m meth c args cX12_write 5 (some .boolean) RX12 D ct L φ N0) (σ : St) (x1 : Int) (x2 : Int) (x3 : Int) (H : Heap) (locs : List Loc) (ls : Array Slot) (hw : wp_X12_write_38 Q σ x1 x2 x3) (h : Hs D ct ad L φ N0 s.heap σ H locs) (hl : lv_has ls 5 [(0, .ref (ad 12 0)), (1, .int (iv x1)), (2, .int (iv x2)), (3, .int (iv x3))]) : W p l e ({ frames := 2, cells := 0, slots := 0, locals := 44 } : Room) s m args below meth c H locs 0 0 (MQ below (Qi D ct ad L φ N0 Q) args s 0 0 (AA N0)) (F0 m 38 ls []) := by
  have hF := X.2.2.2.2.2.2.2.2.1
  unfold wp_X12_write_38 at hw
  refine lv_aload_n X.1 X.2.1 dX12_write_38 rfl (lv_at hl 0 rfl) ?_
  refine r_getR (ci := 12) X inw_12 h (hF.1 12 rfl).1 rfl rfl 98 (by decide) kw_1736 rfl ((hF.1 12 rfl).2 98) dX12_write_39 ?_
  refine lv_iload_n X.1 X.2.1 dX12_write_42 rfl (lv_at hl 1 rfl) ?_
  obtain ⟨g_14, g_15, hw⟩ := hw
  refine r_zald (n := 4) X h (hF.1 153 rfl).1 rfl (by decide) g_14 g_15 dX12_write_43 ?_
  obtain ⟨g_16, hwt, hwf⟩ := hw
  refine j_if_eq (tgt := 51) X g_16 dX12_write_44 (by decide) (fun c_17 => ?_) (fun c_17 => ?_)
  · have hw := hwt c_17
    refine lv_iload_n X.1 X.2.1 dX12_write_51 rfl (lv_at hl 3 rfl) ?_
    refine j_i2s X dX12_write_52 ?_
    exact lb_X12_write_53 X σ x1 x2 (i_i2s x3) _ _ _ hw h (lv_sub hl [0, 1, 2] rfl)
  · have hw := hwf c_17
    refine lv_iload_n X.1 X.2.1 dX12_write_47 rfl (lv_at hl 3 rfl) ?_
    refine lv_goto (tgt := 53) X.1 X.2.1 dX12_write_48 (by decide) ?_
    exact lb_X12_write_53 X σ x1 x2 x3 _ _ _ hw h (lv_sub hl [0, 1, 2] rfl)
theorem pd_X12_write : yX12_write.cls ≠ "java/lang/invoke/MethodHandle" ∧ yX12_write.cls ≠ "java/lang/invoke/VarHandle" ∧ (parseMethodDescriptor yX12_write.desc).map (fun d => d.parameters.length) = some 3 := by decide +kernel
set_option maxRecDepth 100000 in
set_option maxHeartbeats 4000000 in
theorem c_X12_write (l : Launch) (D : va_G) (ct : Nat → ClassId) (ad : Nat → Nat → Nat) (L : List (Nat × Nat)) (φ : Nat → Nat → Nat → Bool) (N0 : Nat) (σ : St) (x1 : Int) (x2 : Int) (x3 : Int) (Q : Int → St → Prop) (hw : wp_X12_write σ x1 x2 x3 Q) : Met l yX12_write (.code yX12_write cX12_write 5 (some .boolean) :: gw) ({ frames := 2, cells := 0, slots := 0, locals := 44 } : Room) (Pm D ct ad L φ N0 σ [.ref (ad 12 0), .int (iv x1), .int (iv x2), .int (iv x3)]) (Qi D ct ad L φ N0 Q) 0 0 (AA N0) := by
  refine m_of (by decide) (fun p e s m below meth c X hnm h => ?_)
  have hF := X.2.2.2.2.2.2.2.2.1
  have hl := lv_entry ([.ref (ad 12 0), .int (iv x1), .int (iv x2), .int (iv x3)]) (n := 5) (Nat.le_of_ble_eq_true rfl)
  rw [lg_entry_eq]
  generalize (lg_sl ([.ref (ad 12 0), .int (iv x1), .int (iv x2), .int (iv x3)]) ++ List.replicate (5 - (lg_sl ([.ref (ad 12 0), .int (iv x1), .int (iv x2), .int (iv x3)])).length) Slot.unset).toArray = ls at hl ⊢
  have hl : lv_has ls 5 [(0, .ref (ad 12 0)), (1, .int (iv x1)), (2, .int (iv x2)), (3, .int (iv x3))] := hl
  have h : Hs D ct ad L φ N0 s.heap σ s.heap [] := h
  unfold wp_X12_write at hw
  refine lv_aload_n X.1 X.2.1 dX12_write_0 rfl (lv_at hl 0 rfl) ?_
  refine j_iconst X dX12_write_1 ?_
  refine r_put (ci := 12) X inw_12 tyX12 tyX12_ok nmX12 h (hF.1 12 rfl).1 rfl rfl 0 (by decide) kw_1638 rfl rfl rfl (Nat.le_of_ble_eq_true rfl) rfl rfl dX12_write_2 (fun H locs h => ?_)
  obtain ⟨σ_18, eσ_18⟩ : ∃ z : St, z = st σ 12 0 0 0 := ⟨_, rfl⟩
  rw [← eσ_18] at h
  have hw := hw σ_18 eσ_18
  refine lv_aload_n X.1 X.2.1 dX12_write_5 rfl (lv_at hl 0 rfl) ?_
  refine lv_iload_n X.1 X.2.1 dX12_write_6 rfl (lv_at hl 1 rfl) ?_
  refine lv_iload_n X.1 X.2.1 dX12_write_7 rfl (lv_at hl 2 rfl) ?_
  refine k_i h (r_V (C := RX12) (ci := 12) (As := [.int (iv x1), .int (iv x2)]) (rest := []) X h (c_X12_isPlace l D ct ad L φ N0 σ_18 x1 x2 _ hw) rfl rfl ⟨Nat.le_of_ble_eq_true rfl, Nat.le_of_ble_eq_true rfl⟩ kw_2422 kw_2424 kw_116 kw_129 kw_2425 ⟨rfl, pd_X12_isPlace⟩ (hF.1 12 rfl).1 rfl rfl rfl hl.1 rfl (Nat.le_of_ble_eq_true rfl) ⟨Nat.le_of_ble_eq_true rfl, Nat.le_of_ble_eq_true rfl⟩ dX12_write_8) (fun r_20 σ_19 H locs hw h => ?_)
  obtain ⟨g_21, hwt, hwf⟩ := hw
  refine j_if_eq (tgt := 36) X g_21 dX12_write_11 (by decide) (fun c_30 => ?_) (fun c_30 => ?_)
  · have hw := hwt c_30
    refine j_iconst X dX12_write_36 ?_
    exact k_ir X rfl h hw dX12_write_37
  · have hw := hwf c_30
    refine lv_aload_n X.1 X.2.1 dX12_write_14 rfl (lv_at hl 0 rfl) ?_
    refine r_getR (ci := 12) X inw_12 h (hF.1 12 rfl).1 rfl rfl 98 (by decide) kw_1736 rfl ((hF.1 12 rfl).2 98) dX12_write_15 ?_
    refine lv_iload_n X.1 X.2.1 dX12_write_18 rfl (lv_at hl 1 rfl) ?_
    obtain ⟨g_22, g_23, hw⟩ := hw
    refine r_zald (n := 4) X h (hF.1 153 rfl).1 rfl (by decide) g_22 g_23 dX12_write_19 ?_
    obtain ⟨g_24, hwt, hwf⟩ := hw
    refine j_if_eq (tgt := 38) X g_24 dX12_write_20 (by decide) (fun c_29 => ?_) (fun c_29 => ?_)
    · have hw := hwt c_29
      exact lb_X12_write_38 X σ_19 x1 x2 x3 _ _ _ hw h (lv_sub hl [0, 1, 2, 3] rfl)
    · have hw := hwf c_29
      refine lv_iload_n X.1 X.2.1 dX12_write_23 rfl (lv_at hl 3 rfl) ?_
      refine j_ldc_w (n := (-1000000)) X kw_2266 (by decide) dX12_write_24 ?_
      refine j_ldc_w (n := 1000000) X kw_2426 (by decide) dX12_write_27 ?_
      refine k_i h (r_S (As := [.int (iv x3), .int (iv (-1000000)), .int (iv 1000000)]) (rest := []) X h (c_X12_within l D ct ad L φ N0 σ_19 x3 (-1000000) 1000000 _ hw) rfl rfl ⟨Nat.le_of_ble_eq_true rfl, Nat.le_of_ble_eq_true rfl⟩ kw_1959 kw_1960 kw_129 kw_1961 pd_X12_within rfl hl.1 rfl (Nat.le_of_ble_eq_true rfl) ⟨Nat.le_of_ble_eq_true rfl, Nat.le_of_ble_eq_true rfl⟩ dX12_write_30) (fun r_26 σ_25 H locs hw h => ?_)
      obtain ⟨g_27, hwt, hwf⟩ := hw
      refine j_if_ne (tgt := 38) X g_27 dX12_write_33 (by decide) (fun c_28 => ?_) (fun c_28 => ?_)
      · have hw := hwt c_28
        exact lb_X12_write_38 X σ_25 x1 x2 x3 _ _ _ hw h (lv_sub hl [0, 1, 2, 3] rfl)
      · have hw := hwf c_28
        refine j_iconst X dX12_write_36 ?_
        exact k_ir X rfl h hw dX12_write_37
end
section
variable {p : Program} {l : Launch} {e : Env} {s : State} {m : MethodId} {args : Array Value} {below : List Frame} {meth : Method} {c : Code} {D : va_G} {ct : Nat → ClassId} {ad : Nat → Nat → Nat} {L : List (Nat × Nat)} {φ : Nat → Nat → Nat → Bool} {N0 : Nat}
variable {Q : St → Prop}
set_option maxRecDepth 100000 in
set_option maxHeartbeats 4000000 in
theorem lb_X12_near_37 (X : Cx p s m meth c args cX12_near 5 none RX12 D ct L φ N0) (σ : St) (x1 : Int) (x4 : Int) (H : Heap) (locs : List Loc) (ls : Array Slot) (hw : wp_X12_near_37 Q σ x1 x4) (h : Hs D ct ad L φ N0 s.heap σ H locs) (hl : lv_has ls 5 [(0, .ref (ad 12 0)), (1, .int (iv x1)), (4, .int (iv x4))]) : W p l e ({ frames := 2, cells := 0, slots := 0, locals := 44 } : Room) s m args below meth c H locs 0 0 (MQ below (Qv D ct ad L φ N0 Q) args s 0 0 (AA N0)) (F0 m 37 ls []) := by
  have hF := X.2.2.2.2.2.2.2.2.1
  unfold wp_X12_near_37 at hw
  refine lv_aload_n X.1 X.2.1 dX12_near_37 rfl (lv_at hl 0 rfl) ?_
  refine lv_iload_n X.1 X.2.1 dX12_near_38 rfl (lv_at hl 1 rfl) ?_
  refine lv_iload X.1 X.2.1 dX12_near_39 (lv_at hl 2 rfl) ?_
  refine k_i h (r_V (C := RX12) (ci := 12) (As := [.int (iv x1), .int (iv x4)]) (rest := []) X h (c_X12_isPlace l D ct ad L φ N0 σ x1 x4 _ hw) rfl rfl ⟨Nat.le_of_ble_eq_true rfl, Nat.le_of_ble_eq_true rfl⟩ kw_2422 kw_2424 kw_116 kw_129 kw_2425 ⟨rfl, pd_X12_isPlace⟩ (hF.1 12 rfl).1 rfl rfl rfl hl.1 rfl (Nat.le_of_ble_eq_true rfl) ⟨Nat.le_of_ble_eq_true rfl, Nat.le_of_ble_eq_true rfl⟩ dX12_near_41) (fun r_2 σ_1 H locs hw h => ?_)
  obtain ⟨g_3, hwt, hwf⟩ := hw
  refine j_if_ne (tgt := 48) X g_3 dX12_near_44 (by decide) (fun c_8 => ?_) (fun c_8 => ?_)
  · have hw := hwt c_8
    refine lv_aload_n X.1 X.2.1 dX12_near_48 rfl (lv_at hl 0 rfl) ?_
    refine lv_dup X.1 X.2.1 dX12_near_49 rfl ?_
    refine r_get (ci := 12) X inw_12 h (hF.1 12 rfl).1 rfl rfl 101 (by decide) kw_1739 rfl dX12_near_50 ?_
    refine lv_aload_n X.1 X.2.1 dX12_near_53 rfl (lv_at hl 0 rfl) ?_
    refine r_getR (ci := 12) X inw_12 h (hF.1 12 rfl).1 rfl rfl 99 (by decide) kw_1737 rfl ((hF.1 12 rfl).2 99) dX12_near_54 ?_
    refine j_bipush X dX12_near_57 (by decide) ?_
    refine lv_iload_n X.1 X.2.1 dX12_near_59 rfl (lv_at hl 1 rfl) ?_
    refine j_imul X dX12_near_60 ?_
    refine lv_iload X.1 X.2.1 dX12_near_61 (lv_at hl 2 rfl) ?_
    refine j_iadd X dX12_near_63 ?_
    obtain ⟨g_4, g_5, hw⟩ := hw
    refine r_iald (n := 160) X h (hF.1 154 rfl).1 rfl (by decide) g_4 g_5 dX12_near_64 ?_
    refine j_iadd X dX12_near_65 ?_
    refine r_put (ci := 12) X inw_12 tyX12 tyX12_ok nmX12 h (hF.1 12 rfl).1 rfl rfl 101 (by decide) kw_1739 rfl rfl rfl (Nat.le_of_ble_eq_true rfl) rfl rfl dX12_near_66 (fun H locs h => ?_)
    obtain ⟨σ_6, eσ_6⟩ : ∃ z : St, z = st σ_1 12 0 101 ((σ_1 12 0 101) + (σ_1 154 0 (Int.toNat ((40 * x1) + x4)))) := ⟨_, rfl⟩
    rw [← eσ_6] at h
    have hw := hw σ_6 eσ_6
    refine lv_aload_n X.1 X.2.1 dX12_near_69 rfl (lv_at hl 0 rfl) ?_
    refine lv_dup X.1 X.2.1 dX12_near_70 rfl ?_
    refine r_get (ci := 12) X inw_12 h (hF.1 12 rfl).1 rfl rfl 102 (by decide) kw_1740 rfl dX12_near_71 ?_
    refine j_iconst X dX12_near_74 ?_
    refine j_iadd X dX12_near_75 ?_
    refine r_put (ci := 12) X inw_12 tyX12 tyX12_ok nmX12 h (hF.1 12 rfl).1 rfl rfl 102 (by decide) kw_1740 rfl rfl rfl (Nat.le_of_ble_eq_true rfl) rfl rfl dX12_near_76 (fun H locs h => ?_)
    obtain ⟨σ_7, eσ_7⟩ : ∃ z : St, z = st σ_6 12 0 102 ((σ_6 12 0 102) + 1) := ⟨_, rfl⟩
    rw [← eσ_7] at h
    have hw := hw σ_7 eσ_7
    exact k_vr X h hw dX12_near_79
  · have hw := hwf c_8
    exact k_vr X h hw dX12_near_47
set_option maxRecDepth 100000 in
set_option maxHeartbeats 4000000 in
theorem lb_X12_near_3 (X : Cx p s m meth c args cX12_near 5 none RX12 D ct L φ N0) {K37 : St → Int → Int → Prop} (hK37 : ∀ (σ : St) (x1 : Int) (x4 : Int) (H : Heap) (locs : List Loc) (ls : Array Slot), K37 σ x1 x4 → Hs D ct ad L φ N0 s.heap σ H locs → lv_has ls 5 [(0, .ref (ad 12 0)), (1, .int (iv x1)), (4, .int (iv x4))] → W p l e ({ frames := 2, cells := 0, slots := 0, locals := 44 } : Room) s m args below meth c H locs 0 0 (MQ below (Qv D ct ad L φ N0 Q) args s 0 0 (AA N0)) (F0 m 37 ls [])) : ∀ (n : Nat) (σ : St) (x1 : Int) (x3 : Int) (x4 : Int) (H : Heap) (locs : List Loc) (ls : Array Slot), wp_X12_near_3 K37 Q n σ x1 x3 x4 → Hs D ct ad L φ N0 s.heap σ H locs → lv_has ls 5 [(0, .ref (ad 12 0)), (1, .int (iv x1)), (3, .int (iv x3)), (4, .int (iv x4))] → W p l e ({ frames := 2, cells := 0, slots := 0, locals := 44 } : Room) s m args below meth c H locs 0 0 (MQ below (Qv D ct ad L φ N0 Q) args s 0 0 (AA N0)) (F0 m 3 ls []) := by
  have hF := X.2.2.2.2.2.2.2.2.1
  intro n
  induction n with
  | zero => intro σ x1 x3 x4 H locs ls hw; exact hw.elim
  | succ n ih =>
    intro σ x1 x3 x4 H locs ls hw h hl
    unfold wp_X12_near_3 at hw
    refine lv_aload_n X.1 X.2.1 dX12_near_3 rfl (lv_at hl 0 rfl) ?_
    refine lv_iload_n X.1 X.2.1 dX12_near_4 rfl (lv_at hl 1 rfl) ?_
    refine lv_iload X.1 X.2.1 dX12_near_5 (lv_at hl 3 rfl) ?_
    refine k_i h (r_V (C := RX12) (ci := 12) (As := [.int (iv x1), .int (iv x4)]) (rest := []) X h (c_X12_isPlace l D ct ad L φ N0 σ x1 x4 _ hw) rfl rfl ⟨Nat.le_of_ble_eq_true rfl, Nat.le_of_ble_eq_true rfl⟩ kw_2422 kw_2424 kw_116 kw_129 kw_2425 ⟨rfl, pd_X12_isPlace⟩ (hF.1 12 rfl).1 rfl rfl rfl hl.1 rfl (Nat.le_of_ble_eq_true rfl) ⟨Nat.le_of_ble_eq_true rfl, Nat.le_of_ble_eq_true rfl⟩ dX12_near_7) (fun r_10 σ_9 H locs hw h => ?_)
    obtain ⟨g_11, hwt, hwf⟩ := hw
    refine j_if_eq (tgt := 37) X g_11 dX12_near_10 (by decide) (fun c_17 => ?_) (fun c_17 => ?_)
    · have hw := hwt c_17
      exact hK37 σ_9 x1 x4 _ _ _ hw h (lv_sub hl [0, 1, 3] rfl)
    · have hw := hwf c_17
      refine lv_aload_n X.1 X.2.1 dX12_near_13 rfl (lv_at hl 0 rfl) ?_
      refine r_getR (ci := 12) X inw_12 h (hF.1 12 rfl).1 rfl rfl 100 (by decide) kw_1738 rfl ((hF.1 12 rfl).2 100) dX12_near_14 ?_
      refine j_bipush X dX12_near_17 (by decide) ?_
      refine lv_iload_n X.1 X.2.1 dX12_near_19 rfl (lv_at hl 1 rfl) ?_
      refine j_imul X dX12_near_20 ?_
      refine lv_iload X.1 X.2.1 dX12_near_21 (lv_at hl 3 rfl) ?_
      refine j_iadd X dX12_near_23 ?_
      obtain ⟨g_12, g_13, hw⟩ := hw
      refine r_zald (n := 160) X h (hF.1 155 rfl).1 rfl (by decide) g_12 g_13 dX12_near_24 ?_
      obtain ⟨g_14, hwt, hwf⟩ := hw
      refine j_if_eq (tgt := 37) X g_14 dX12_near_25 (by decide) (fun c_16 => ?_) (fun c_16 => ?_)
      · have hw := hwt c_16
        exact hK37 σ_9 x1 x4 _ _ _ hw h (lv_sub hl [0, 1, 3] rfl)
      · have hw := hwf c_16
        refine lv_iload X.1 X.2.1 dX12_near_28 (lv_at hl 3 rfl) ?_
        refine lv_iload_n X.1 X.2.1 dX12_near_30 rfl (lv_at hl 2 rfl) ?_
        refine j_iadd X dX12_near_31 ?_
        refine j_bind (fun v_15 ev_15 => ?_)
        have hw := hw v_15 ev_15
        refine lv_istore (lv' := [(4, .int (iv v_15)), (0, .ref (ad 12 0)), (1, .int (iv x1)), (3, .int (iv x3))]) X.1 X.2.1 dX12_near_32 hl (by decide) rfl (fun ls hl => ?_)
        refine lv_goto (tgt := 3) X.1 X.2.1 dX12_near_34 (by decide) ?_
        exact ih σ_9 x1 x3 v_15 _ _ _ hw h (lv_sub hl [1, 2, 3, 0] rfl)
theorem pd_X12_near : yX12_near.cls ≠ "java/lang/invoke/MethodHandle" ∧ yX12_near.cls ≠ "java/lang/invoke/VarHandle" ∧ (parseMethodDescriptor yX12_near.desc).map (fun d => d.parameters.length) = some 3 := by decide +kernel
set_option maxRecDepth 100000 in
set_option maxHeartbeats 4000000 in
theorem c_X12_near (l : Launch) (D : va_G) (ct : Nat → ClassId) (ad : Nat → Nat → Nat) (L : List (Nat × Nat)) (φ : Nat → Nat → Nat → Bool) (N0 : Nat) (σ : St) (x1 : Int) (x2 : Int) (x3 : Int) (Q : St → Prop) (hw : wp_X12_near σ x1 x2 x3 Q) : Met l yX12_near (.code yX12_near cX12_near 5 none :: gw) ({ frames := 2, cells := 0, slots := 0, locals := 44 } : Room) (Pm D ct ad L φ N0 σ [.ref (ad 12 0), .int (iv x1), .int (iv x2), .int (iv x3)]) (Qv D ct ad L φ N0 Q) 0 0 (AA N0) := by
  refine m_of (by decide) (fun p e s m below meth c X hnm h => ?_)
  have hF := X.2.2.2.2.2.2.2.2.1
  have hl := lv_entry ([.ref (ad 12 0), .int (iv x1), .int (iv x2), .int (iv x3)]) (n := 5) (Nat.le_of_ble_eq_true rfl)
  rw [lg_entry_eq]
  generalize (lg_sl ([.ref (ad 12 0), .int (iv x1), .int (iv x2), .int (iv x3)]) ++ List.replicate (5 - (lg_sl ([.ref (ad 12 0), .int (iv x1), .int (iv x2), .int (iv x3)])).length) Slot.unset).toArray = ls at hl ⊢
  have hl : lv_has ls 5 [(0, .ref (ad 12 0)), (1, .int (iv x1)), (2, .int (iv x2)), (3, .int (iv x3))] := hl
  have h : Hs D ct ad L φ N0 s.heap σ s.heap [] := h
  unfold wp_X12_near at hw
  refine lv_iload_n X.1 X.2.1 dX12_near_0 rfl (lv_at hl 2 rfl) ?_
  refine lv_istore (lv' := [(4, .int (iv x2)), (0, .ref (ad 12 0)), (1, .int (iv x1)), (2, .int (iv x2)), (3, .int (iv x3))]) X.1 X.2.1 dX12_near_1 hl (by decide) rfl (fun ls hl => ?_)
  exact hw.elim (fun n3 hw => lb_X12_near_3 X (lb_X12_near_37 X) n3 σ x1 x3 x2 _ _ _ hw h (lv_sub hl [1, 2, 4, 0] rfl))
end
section
variable {p : Program} {l : Launch} {e : Env} {s : State} {m : MethodId} {args : Array Value} {below : List Frame} {meth : Method} {c : Code} {D : va_G} {ct : Nat → ClassId} {ad : Nat → Nat → Nat} {L : List (Nat × Nat)} {φ : Nat → Nat → Nat → Bool} {N0 : Nat}
variable {Q : Int → St → Prop}
set_option maxRecDepth 100000 in
set_option maxHeartbeats 4000000 in
theorem lb_X12_told_38 (X : Cx p s m meth c args cX12_told 3 (some .int) RX12 D ct L φ N0) (σ : St) (H : Heap) (locs : List Loc) (ls : Array Slot) (hw : wp_X12_told_38 Q σ) (h : Hs D ct ad L φ N0 s.heap σ H locs) (hl : lv_has ls 3 [(0, .ref (ad 12 0))]) : W p l e ({ frames := 3, cells := 0, slots := 0, locals := 68 } : Room) s m args below meth c H locs 0 0 (MQ below (Qi D ct ad L φ N0 Q) args s 0 0 (AA N0)) (F0 m 38 ls []) := by
  have hF := X.2.2.2.2.2.2.2.2.1
  unfold wp_X12_told_38 at hw
  refine lv_aload_n X.1 X.2.1 dX12_told_38 rfl (lv_at hl 0 rfl) ?_
  refine r_get (ci := 12) X inw_12 h (hF.1 12 rfl).1 rfl rfl 102 (by decide) kw_1740 rfl dX12_told_39 ?_
  obtain ⟨g_1, hwt, hwf⟩ := hw
  refine j_if_ne (tgt := 49) X g_1 dX12_told_42 (by decide) (fun c_6 => ?_) (fun c_6 => ?_)
  · have hw := hwt c_6
    refine lv_aload_n X.1 X.2.1 dX12_told_49 rfl (lv_at hl 0 rfl) ?_
    refine r_get (ci := 12) X inw_12 h (hF.1 12 rfl).1 rfl rfl 101 (by decide) kw_1739 rfl dX12_told_50 ?_
    refine lv_aload_n X.1 X.2.1 dX12_told_53 rfl (lv_at hl 0 rfl) ?_
    refine r_get (ci := 12) X inw_12 h (hF.1 12 rfl).1 rfl rfl 102 (by decide) kw_1740 rfl dX12_told_54 ?_
    obtain ⟨g_2, g_3, g_4, g_5, hw⟩ := hw
    refine j_idiv X g_2 g_3 g_4 g_5 dX12_told_57 ?_
    exact k_ir X rfl h hw dX12_told_58
  · have hw := hwf c_6
    refine j_iconst X dX12_told_45 ?_
    refine lv_goto (tgt := 58) X.1 X.2.1 dX12_told_46 (by decide) ?_
    exact k_ir X rfl h hw dX12_told_58
theorem pd_X12_told : yX12_told.cls ≠ "java/lang/invoke/MethodHandle" ∧ yX12_told.cls ≠ "java/lang/invoke/VarHandle" ∧ (parseMethodDescriptor yX12_told.desc).map (fun d => d.parameters.length) = some 2 := by decide +kernel
set_option maxRecDepth 100000 in
set_option maxHeartbeats 4000000 in
theorem c_X12_told (l : Launch) (D : va_G) (ct : Nat → ClassId) (ad : Nat → Nat → Nat) (L : List (Nat × Nat)) (φ : Nat → Nat → Nat → Bool) (N0 : Nat) (σ : St) (x1 : Int) (x2 : Int) (Q : Int → St → Prop) (hw : wp_X12_told σ x1 x2 Q) : Met l yX12_told (.code yX12_told cX12_told 3 (some .int) :: gw) ({ frames := 3, cells := 0, slots := 0, locals := 68 } : Room) (Pm D ct ad L φ N0 σ [.ref (ad 12 0), .int (iv x1), .int (iv x2)]) (Qi D ct ad L φ N0 Q) 0 0 (AA N0) := by
  refine m_of (by decide) (fun p e s m below meth c X hnm h => ?_)
  have hF := X.2.2.2.2.2.2.2.2.1
  have hl := lv_entry ([.ref (ad 12 0), .int (iv x1), .int (iv x2)]) (n := 3) (Nat.le_of_ble_eq_true rfl)
  rw [lg_entry_eq]
  generalize (lg_sl ([.ref (ad 12 0), .int (iv x1), .int (iv x2)]) ++ List.replicate (3 - (lg_sl ([.ref (ad 12 0), .int (iv x1), .int (iv x2)])).length) Slot.unset).toArray = ls at hl ⊢
  have hl : lv_has ls 3 [(0, .ref (ad 12 0)), (1, .int (iv x1)), (2, .int (iv x2))] := hl
  have h : Hs D ct ad L φ N0 s.heap σ s.heap [] := h
  unfold wp_X12_told at hw
  refine lv_aload_n X.1 X.2.1 dX12_told_0 rfl (lv_at hl 0 rfl) ?_
  refine j_iconst X dX12_told_1 ?_
  refine r_put (ci := 12) X inw_12 tyX12 tyX12_ok nmX12 h (hF.1 12 rfl).1 rfl rfl 101 (by decide) kw_1739 rfl rfl rfl (Nat.le_of_ble_eq_true rfl) rfl rfl dX12_told_2 (fun H locs h => ?_)
  obtain ⟨σ_7, eσ_7⟩ : ∃ z : St, z = st σ 12 0 101 0 := ⟨_, rfl⟩
  rw [← eσ_7] at h
  have hw := hw σ_7 eσ_7
  refine lv_aload_n X.1 X.2.1 dX12_told_5 rfl (lv_at hl 0 rfl) ?_
  refine j_iconst X dX12_told_6 ?_
  refine r_put (ci := 12) X inw_12 tyX12 tyX12_ok nmX12 h (hF.1 12 rfl).1 rfl rfl 102 (by decide) kw_1740 rfl rfl rfl (Nat.le_of_ble_eq_true rfl) rfl rfl dX12_told_7 (fun H locs h => ?_)
  obtain ⟨σ_8, eσ_8⟩ : ∃ z : St, z = st σ_7 12 0 102 0 := ⟨_, rfl⟩
  rw [← eσ_8] at h
  have hw := hw σ_8 eσ_8
  refine lv_aload_n X.1 X.2.1 dX12_told_10 rfl (lv_at hl 0 rfl) ?_
  refine lv_iload_n X.1 X.2.1 dX12_told_11 rfl (lv_at hl 1 rfl) ?_
  refine lv_iload_n X.1 X.2.1 dX12_told_12 rfl (lv_at hl 2 rfl) ?_
  refine j_iconst X dX12_told_13 ?_
  refine k_v h (r_V (C := RX12) (ci := 12) (As := [.int (iv x1), .int (iv x2), .int (iv (-1))]) (rest := []) X h (c_X12_near l D ct ad L φ N0 σ_8 x1 x2 (-1) _ hw) rfl rfl ⟨Nat.le_of_ble_eq_true rfl, Nat.le_of_ble_eq_true rfl⟩ kw_2435 kw_2437 kw_118 kw_129 kw_2438 ⟨rfl, pd_X12_near⟩ (hF.1 12 rfl).1 rfl rfl rfl hl.1 rfl (Nat.le_of_ble_eq_true rfl) ⟨Nat.le_of_ble_eq_true rfl, Nat.le_of_ble_eq_true rfl⟩ dX12_told_14) (fun σ_9 H locs hw h => ?_)
  refine lv_aload_n X.1 X.2.1 dX12_told_17 rfl (lv_at hl 0 rfl) ?_
  refine r_getR (ci := 12) X inw_12 h (hF.1 12 rfl).1 rfl rfl 100 (by decide) kw_1738 rfl ((hF.1 12 rfl).2 100) dX12_told_18 ?_
  refine j_bipush X dX12_told_21 (by decide) ?_
  refine lv_iload_n X.1 X.2.1 dX12_told_23 rfl (lv_at hl 1 rfl) ?_
  refine j_imul X dX12_told_24 ?_
  refine lv_iload_n X.1 X.2.1 dX12_told_25 rfl (lv_at hl 2 rfl) ?_
  refine j_iadd X dX12_told_26 ?_
  obtain ⟨g_10, g_11, hw⟩ := hw
  refine r_zald (n := 160) X h (hF.1 155 rfl).1 rfl (by decide) g_10 g_11 dX12_told_27 ?_
  obtain ⟨g_12, hwt, hwf⟩ := hw
  refine j_if_eq (tgt := 38) X g_12 dX12_told_28 (by decide) (fun c_14 => ?_) (fun c_14 => ?_)
  · have hw := hwt c_14
    exact lb_X12_told_38 X σ_9 _ _ _ hw h (lv_sub hl [0] rfl)
  · have hw := hwf c_14
    refine lv_aload_n X.1 X.2.1 dX12_told_31 rfl (lv_at hl 0 rfl) ?_
    refine lv_iload_n X.1 X.2.1 dX12_told_32 rfl (lv_at hl 1 rfl) ?_
    refine lv_iload_n X.1 X.2.1 dX12_told_33 rfl (lv_at hl 2 rfl) ?_
    refine j_iconst X dX12_told_34 ?_
    refine k_v h (r_V (C := RX12) (ci := 12) (As := [.int (iv x1), .int (iv x2), .int (iv 1)]) (rest := []) X h (c_X12_near l D ct ad L φ N0 σ_9 x1 x2 1 _ hw) rfl rfl ⟨Nat.le_of_ble_eq_true rfl, Nat.le_of_ble_eq_true rfl⟩ kw_2435 kw_2437 kw_118 kw_129 kw_2438 ⟨rfl, pd_X12_near⟩ (hF.1 12 rfl).1 rfl rfl rfl hl.1 rfl (Nat.le_of_ble_eq_true rfl) ⟨Nat.le_of_ble_eq_true rfl, Nat.le_of_ble_eq_true rfl⟩ dX12_told_35) (fun σ_13 H locs hw h => ?_)
    exact lb_X12_told_38 X σ_13 _ _ _ hw h (lv_sub hl [0] rfl)
end
section
variable {p : Program} {l : Launch} {e : Env} {s : State} {m : MethodId} {args : Array Value} {below : List Frame} {meth : Method} {c : Code} {D : va_G} {ct : Nat → ClassId} {ad : Nat → Nat → Nat} {L : List (Nat × Nat)} {φ : Nat → Nat → Nat → Bool} {N0 : Nat}
variable {Q : Int → St → Prop}
set_option maxRecDepth 100000 in
set_option maxHeartbeats 4000000 in
theorem lb_X12_each_50 (X : Cx p s m meth c args cX12_each 5 (some .int) RX12 D ct L φ N0) (σ : St) (x3 : Int) (x4 : Int) (y0 : Int) (H : Heap) (locs : List Loc) (ls : Array Slot) (hw : wp_X12_each_50 Q σ x3 x4 y0) (h : Hs D ct ad L φ N0 s.heap σ H locs) (hl : lv_has ls 5 [(3, .int (iv x3)), (4, .int (iv x4))]) : W p l e ({ frames := 4, cells := 0, slots := 0, locals := 90 } : Room) s m args below meth c H locs 0 0 (MQ below (Qi D ct ad L φ N0 Q) args s 0 0 (AA N0)) (F0 m 50 ls [.int (iv y0), .ref (ad 12 0)]) := by
  have hF := X.2.2.2.2.2.2.2.2.1
  unfold wp_X12_each_50 at hw
  refine r_put (ci := 12) X inw_12 tyX12 tyX12_ok nmX12 h (hF.1 12 rfl).1 rfl rfl 0 (by decide) kw_1638 rfl rfl rfl (Nat.le_of_ble_eq_true rfl) rfl rfl dX12_each_50 (fun H locs h => ?_)
  obtain ⟨σ_1, eσ_1⟩ : ∃ z : St, z = st σ 12 0 0 y0 := ⟨_, rfl⟩
  rw [← eσ_1] at h
  have hw := hw σ_1 eσ_1
  refine lv_iload_n X.1 X.2.1 dX12_each_53 rfl (lv_at hl 0 rfl) ?_
  obtain ⟨g_2, hwt, hwf⟩ := hw
  refine j_if_eq (tgt := 62) X g_2 dX12_each_54 (by decide) (fun c_3 => ?_) (fun c_3 => ?_)
  · have hw := hwt c_3
    refine j_iconst X dX12_each_62 ?_
    exact k_ir X rfl h hw dX12_each_63
  · have hw := hwf c_3
    refine lv_iload X.1 X.2.1 dX12_each_57 (lv_at hl 1 rfl) ?_
    refine lv_goto (tgt := 63) X.1 X.2.1 dX12_each_59 (by decide) ?_
    exact k_ir X rfl h hw dX12_each_63
set_option maxRecDepth 100000 in
set_option maxHeartbeats 4000000 in
theorem lb_X12_each_39 (X : Cx p s m meth c args cX12_each 5 (some .int) RX12 D ct L φ N0) (σ : St) (x4 : Int) (y0 : Int) (H : Heap) (locs : List Loc) (ls : Array Slot) (hw : wp_X12_each_39 Q σ x4 y0) (h : Hs D ct ad L φ N0 s.heap σ H locs) (hl : lv_has ls 5 [(0, .ref (ad 12 0)), (4, .int (iv x4))]) : W p l e ({ frames := 4, cells := 0, slots := 0, locals := 90 } : Room) s m args below meth c H locs 0 0 (MQ below (Qi D ct ad L φ N0 Q) args s 0 0 (AA N0)) (F0 m 39 ls [.int (iv y0)]) := by
  have hF := X.2.2.2.2.2.2.2.2.1
  unfold wp_X12_each_39 at hw
  refine lv_istore_n (lv' := [(3, .int (iv y0)), (0, .ref (ad 12 0)), (4, .int (iv x4))]) X.1 X.2.1 dX12_each_39 rfl hl (by decide) rfl (fun ls hl => ?_)
  refine lv_aload_n X.1 X.2.1 dX12_each_40 rfl (lv_at hl 1 rfl) ?_
  refine lv_iload_n X.1 X.2.1 dX12_each_41 rfl (lv_at hl 0 rfl) ?_
  obtain ⟨g_4, hwt, hwf⟩ := hw
  refine j_if_eq (tgt := 49) X g_4 dX12_each_42 (by decide) (fun c_5 => ?_) (fun c_5 => ?_)
  · have hw := hwt c_5
    refine j_iconst X dX12_each_49 ?_
    exact lb_X12_each_50 X σ y0 x4 1 _ _ _ hw h (lv_sub hl [0, 2] rfl)
  · have hw := hwf c_5
    refine j_iconst X dX12_each_45 ?_
    refine lv_goto (tgt := 50) X.1 X.2.1 dX12_each_46 (by decide) ?_
    exact lb_X12_each_50 X σ y0 x4 0 _ _ _ hw h (lv_sub hl [0, 2] rfl)
set_option maxRecDepth 100000 in
set_option maxHeartbeats 4000000 in
theorem lb_X12_each_38 (X : Cx p s m meth c args cX12_each 5 (some .int) RX12 D ct L φ N0) (σ : St) (x4 : Int) (H : Heap) (locs : List Loc) (ls : Array Slot) (hw : wp_X12_each_38 Q σ x4) (h : Hs D ct ad L φ N0 s.heap σ H locs) (hl : lv_has ls 5 [(0, .ref (ad 12 0)), (4, .int (iv x4))]) : W p l e ({ frames := 4, cells := 0, slots := 0, locals := 90 } : Room) s m args below meth c H locs 0 0 (MQ below (Qi D ct ad L φ N0 Q) args s 0 0 (AA N0)) (F0 m 38 ls []) := by
  have hF := X.2.2.2.2.2.2.2.2.1
  unfold wp_X12_each_38 at hw
  refine j_iconst X dX12_each_38 ?_
  exact lb_X12_each_39 X σ x4 0 _ _ _ hw h (lv_sub hl [0, 1] rfl)
set_option maxRecDepth 100000 in
set_option maxHeartbeats 4000000 in
theorem lb_X12_each_21 (X : Cx p s m meth c args cX12_each 5 (some .int) RX12 D ct L φ N0) (σ : St) (x3 : Int) (y0 : Int) (H : Heap) (locs : List Loc) (ls : Array Slot) (hw : wp_X12_each_21 Q σ x3 y0) (h : Hs D ct ad L φ N0 s.heap σ H locs) (hl : lv_has ls 5 [(0, .ref (ad 12 0)), (3, .int (iv x3))]) : W p l e ({ frames := 4, cells := 0, slots := 0, locals := 90 } : Room) s m args below meth c H locs 0 0 (MQ below (Qi D ct ad L φ N0 Q) args s 0 0 (AA N0)) (F0 m 21 ls [.int (iv y0)]) := by
  have hF := X.2.2.2.2.2.2.2.2.1
  unfold wp_X12_each_21 at hw
  refine lv_istore (lv' := [(4, .int (iv y0)), (0, .ref (ad 12 0)), (3, .int (iv x3))]) X.1 X.2.1 dX12_each_21 hl (by decide) rfl (fun ls hl => ?_)
  refine lv_iload_n X.1 X.2.1 dX12_each_23 rfl (lv_at hl 2 rfl) ?_
  obtain ⟨g_6, hwt, hwf⟩ := hw
  refine j_if_eq (tgt := 38) X g_6 dX12_each_24 (by decide) (fun c_9 => ?_) (fun c_9 => ?_)
  · have hw := hwt c_9
    exact lb_X12_each_38 X σ y0 _ _ _ hw h (lv_sub hl [1, 0] rfl)
  · have hw := hwf c_9
    refine lv_aload_n X.1 X.2.1 dX12_each_27 rfl (lv_at hl 1 rfl) ?_
    refine r_get (ci := 12) X inw_12 h (hF.1 12 rfl).1 rfl rfl 102 (by decide) kw_1740 rfl dX12_each_28 ?_
    obtain ⟨g_7, hwt, hwf⟩ := hw
    refine j_if_le (tgt := 38) X g_7 dX12_each_31 (by decide) (fun c_8 => ?_) (fun c_8 => ?_)
    · have hw := hwt c_8
      exact lb_X12_each_38 X σ y0 _ _ _ hw h (lv_sub hl [1, 0] rfl)
    · have hw := hwf c_8
      refine j_iconst X dX12_each_34 ?_
      refine lv_goto (tgt := 39) X.1 X.2.1 dX12_each_35 (by decide) ?_
      exact lb_X12_each_39 X σ y0 1 _ _ _ hw h (lv_sub hl [1, 0] rfl)
theorem pd_X12_each : yX12_each.cls ≠ "java/lang/invoke/MethodHandle" ∧ yX12_each.cls ≠ "java/lang/invoke/VarHandle" ∧ (parseMethodDescriptor yX12_each.desc).map (fun d => d.parameters.length) = some 2 := by decide +kernel
set_option maxRecDepth 100000 in
set_option maxHeartbeats 4000000 in
theorem c_X12_each (l : Launch) (D : va_G) (ct : Nat → ClassId) (ad : Nat → Nat → Nat) (L : List (Nat × Nat)) (φ : Nat → Nat → Nat → Bool) (N0 : Nat) (σ : St) (x1 : Int) (x2 : Int) (Q : Int → St → Prop) (hw : wp_X12_each σ x1 x2 Q) : Met l yX12_each (.code yX12_each cX12_each 5 (some .int) :: gw) ({ frames := 4, cells := 0, slots := 0, locals := 90 } : Room) (Pm D ct ad L φ N0 σ [.ref (ad 12 0), .int (iv x1), .int (iv x2)]) (Qi D ct ad L φ N0 Q) 0 0 (AA N0) := by
  refine m_of (by decide) (fun p e s m below meth c X hnm h => ?_)
  have hF := X.2.2.2.2.2.2.2.2.1
  have hl := lv_entry ([.ref (ad 12 0), .int (iv x1), .int (iv x2)]) (n := 5) (Nat.le_of_ble_eq_true rfl)
  rw [lg_entry_eq]
  generalize (lg_sl ([.ref (ad 12 0), .int (iv x1), .int (iv x2)]) ++ List.replicate (5 - (lg_sl ([.ref (ad 12 0), .int (iv x1), .int (iv x2)])).length) Slot.unset).toArray = ls at hl ⊢
  have hl : lv_has ls 5 [(0, .ref (ad 12 0)), (1, .int (iv x1)), (2, .int (iv x2))] := hl
  have h : Hs D ct ad L φ N0 s.heap σ s.heap [] := h
  unfold wp_X12_each at hw
  refine lv_aload_n X.1 X.2.1 dX12_each_0 rfl (lv_at hl 0 rfl) ?_
  refine lv_iload_n X.1 X.2.1 dX12_each_1 rfl (lv_at hl 1 rfl) ?_
  refine lv_iload_n X.1 X.2.1 dX12_each_2 rfl (lv_at hl 2 rfl) ?_
  refine k_i h (r_V (C := RX12) (ci := 12) (As := [.int (iv x1), .int (iv x2)]) (rest := []) X h (c_X12_isPlace l D ct ad L φ N0 σ x1 x2 _ hw) rfl rfl ⟨Nat.le_of_ble_eq_true rfl, Nat.le_of_ble_eq_true rfl⟩ kw_2422 kw_2424 kw_116 kw_129 kw_2425 ⟨rfl, pd_X12_isPlace⟩ (hF.1 12 rfl).1 rfl rfl rfl hl.1 rfl (Nat.le_of_ble_eq_true rfl) ⟨Nat.le_of_ble_eq_true rfl, Nat.le_of_ble_eq_true rfl⟩ dX12_each_3) (fun r_11 σ_10 H locs hw h => ?_)
  refine lv_istore_n (lv' := [(3, .int (iv r_11)), (0, .ref (ad 12 0)), (1, .int (iv x1)), (2, .int (iv x2))]) X.1 X.2.1 dX12_each_6 rfl hl (by decide) rfl (fun ls hl => ?_)
  refine lv_iload_n X.1 X.2.1 dX12_each_7 rfl (lv_at hl 0 rfl) ?_
  obtain ⟨g_12, hwt, hwf⟩ := hw
  refine j_if_eq (tgt := 20) X g_12 dX12_each_8 (by decide) (fun c_15 => ?_) (fun c_15 => ?_)
  · have hw := hwt c_15
    refine j_iconst X dX12_each_20 ?_
    exact lb_X12_each_21 X σ_10 r_11 0 _ _ _ hw h (lv_sub hl [1, 0] rfl)
  · have hw := hwf c_15
    refine lv_aload_n X.1 X.2.1 dX12_each_11 rfl (lv_at hl 1 rfl) ?_
    refine lv_iload_n X.1 X.2.1 dX12_each_12 rfl (lv_at hl 2 rfl) ?_
    refine lv_iload_n X.1 X.2.1 dX12_each_13 rfl (lv_at hl 3 rfl) ?_
    refine k_i h (r_V (C := RX12) (ci := 12) (As := [.int (iv x1), .int (iv x2)]) (rest := []) X h (c_X12_told l D ct ad L φ N0 σ_10 x1 x2 _ hw) rfl rfl ⟨Nat.le_of_ble_eq_true rfl, Nat.le_of_ble_eq_true rfl⟩ kw_2431 kw_2433 kw_117 kw_129 kw_2434 ⟨rfl, pd_X12_told⟩ (hF.1 12 rfl).1 rfl rfl rfl hl.1 rfl (Nat.le_of_ble_eq_true rfl) ⟨Nat.le_of_ble_eq_true rfl, Nat.le_of_ble_eq_true rfl⟩ dX12_each_14) (fun r_14 σ_13 H locs hw h => ?_)
    refine lv_goto (tgt := 21) X.1 X.2.1 dX12_each_17 (by decide) ?_
    exact lb_X12_each_21 X σ_13 r_11 r_14 _ _ _ hw h (lv_sub hl [1, 0] rfl)
end
section
variable {p : Program} {l : Launch} {e : Env} {s : State} {m : MethodId} {args : Array Value} {below : List Frame} {meth : Method} {c : Code} {D : va_G} {ct : Nat → ClassId} {ad : Nat → Nat → Nat} {L : List (Nat × Nat)} {φ : Nat → Nat → Nat → Bool} {N0 : Nat}
variable {Q : Int → St → Prop}
set_option maxRecDepth 100000 in
set_option maxHeartbeats 4000000 in
theorem lb_X12_cruise_135 (X : Cx p s m meth c args cX12_cruise 9 (some .int) RX12 D ct L φ N0) (σ : St) (x2 : Int) (x3 : Int) (x4 : Int) (x5 : Int) (H : Heap) (locs : List Loc) (ls : Array Slot) (hw : wp_X12_cruise_135 Q σ x2 x3 x4 x5) (h : Hs D ct ad L φ N0 s.heap σ H locs) (hl : lv_has ls 9 [(2, .int (iv x2)), (3, .int (iv x3)), (4, .int (iv x4)), (5, .int (iv x5))]) : W p l e ({ frames := 4, cells := 0, slots := 0, locals := 90 } : Room) s m args below meth c H locs 0 0 (MQ below (Qi D ct ad L φ N0 Q) args s 0 0 (AA N0)) (F0 m 135 ls []) := by
  have hF := X.2.2.2.2.2.2.2.2.1
  unfold wp_X12_cruise_135 at hw
  refine lv_iload_n X.1 X.2.1 dX12_cruise_135 rfl (lv_at hl 0 rfl) ?_
  obtain ⟨g_1, hwt, hwf⟩ := hw
  refine j_if_ne (tgt := 143) X g_1 dX12_cruise_136 (by decide) (fun c_2 => ?_) (fun c_2 => ?_)
  · have hw := hwt c_2
    refine lv_iload X.1 X.2.1 dX12_cruise_143 (lv_at hl 3 rfl) ?_
    refine lv_iload X.1 X.2.1 dX12_cruise_145 (lv_at hl 2 rfl) ?_
    refine j_isub X dX12_cruise_147 ?_
    exact k_ir X rfl h hw dX12_cruise_148
  · have hw := hwf c_2
    refine lv_iload_n X.1 X.2.1 dX12_cruise_139 rfl (lv_at hl 1 rfl) ?_
    refine lv_goto (tgt := 148) X.1 X.2.1 dX12_cruise_140 (by decide) ?_
    exact k_ir X rfl h hw dX12_cruise_148
set_option maxRecDepth 100000 in
set_option maxHeartbeats 4000000 in
theorem lb_X12_cruise_129 (X : Cx p s m meth c args cX12_cruise 9 (some .int) RX12 D ct L φ N0) {K49 : St → Int → Int → Int → Int → Int → Int → Int → Prop} {K135 : St → Int → Int → Int → Int → Prop} (hK49 : ∀ (σ : St) (x1 : Int) (x2 : Int) (x3 : Int) (x4 : Int) (x5 : Int) (x6 : Int) (x7 : Int) (H : Heap) (locs : List Loc) (ls : Array Slot), K49 σ x1 x2 x3 x4 x5 x6 x7 → Hs D ct ad L φ N0 s.heap σ H locs → lv_has ls 9 [(0, .ref (ad 12 0)), (1, .int (iv x1)), (2, .int (iv x2)), (3, .int (iv x3)), (4, .int (iv x4)), (5, .int (iv x5)), (6, .int (iv x6)), (7, .int (iv x7))] → W p l e ({ frames := 4, cells := 0, slots := 0, locals := 90 } : Room) s m args below meth c H locs 0 0 (MQ below (Qi D ct ad L φ N0 Q) args s 0 0 (AA N0)) (F0 m 49 ls [])) (hK135 : ∀ (σ : St) (x2 : Int) (x3 : Int) (x4 : Int) (x5 : Int) (H : Heap) (locs : List Loc) (ls : Array Slot), K135 σ x2 x3 x4 x5 → Hs D ct ad L φ N0 s.heap σ H locs → lv_has ls 9 [(2, .int (iv x2)), (3, .int (iv x3)), (4, .int (iv x4)), (5, .int (iv x5))] → W p l e ({ frames := 4, cells := 0, slots := 0, locals := 90 } : Room) s m args below meth c H locs 0 0 (MQ below (Qi D ct ad L φ N0 Q) args s 0 0 (AA N0)) (F0 m 135 ls [])) (σ : St) (x1 : Int) (x2 : Int) (x3 : Int) (x4 : Int) (x5 : Int) (x6 : Int) (x7 : Int) (H : Heap) (locs : List Loc) (ls : Array Slot) (hw : wp_X12_cruise_129 K49 K135 Q σ x1 x2 x3 x4 x5 x6 x7) (h : Hs D ct ad L φ N0 s.heap σ H locs) (hl : lv_has ls 9 [(0, .ref (ad 12 0)), (1, .int (iv x1)), (2, .int (iv x2)), (3, .int (iv x3)), (4, .int (iv x4)), (5, .int (iv x5)), (6, .int (iv x6)), (7, .int (iv x7))]) : W p l e ({ frames := 4, cells := 0, slots := 0, locals := 90 } : Room) s m args below meth c H locs 0 0 (MQ below (Qi D ct ad L φ N0 Q) args s 0 0 (AA N0)) (F0 m 129 ls []) := by
  have hF := X.2.2.2.2.2.2.2.2.1
  unfold wp_X12_cruise_129 at hw
  refine j_iinc (kk9 := 7) (lv' := [(7, .int (iv (x7 + 1))), (0, .ref (ad 12 0)), (1, .int (iv x1)), (2, .int (iv x2)), (3, .int (iv x3)), (4, .int (iv x4)), (5, .int (iv x5)), (6, .int (iv x6))]) X dX12_cruise_129 hl rfl (by decide) rfl (fun ls hl => ?_)
  refine lv_goto (tgt := 49) X.1 X.2.1 dX12_cruise_132 (by decide) ?_
  exact hK49 σ x1 x2 x3 x4 x5 x6 (x7 + 1) _ _ _ hw h (lv_sub hl [1, 2, 3, 4, 5, 6, 7, 0] rfl)
set_option maxRecDepth 100000 in
set_option maxHeartbeats 4000000 in
theorem lb_X12_cruise_119 (X : Cx p s m meth c args cX12_cruise 9 (some .int) RX12 D ct L φ N0) {K49 : St → Int → Int → Int → Int → Int → Int → Int → Prop} {K135 : St → Int → Int → Int → Int → Prop} (hK49 : ∀ (σ : St) (x1 : Int) (x2 : Int) (x3 : Int) (x4 : Int) (x5 : Int) (x6 : Int) (x7 : Int) (H : Heap) (locs : List Loc) (ls : Array Slot), K49 σ x1 x2 x3 x4 x5 x6 x7 → Hs D ct ad L φ N0 s.heap σ H locs → lv_has ls 9 [(0, .ref (ad 12 0)), (1, .int (iv x1)), (2, .int (iv x2)), (3, .int (iv x3)), (4, .int (iv x4)), (5, .int (iv x5)), (6, .int (iv x6)), (7, .int (iv x7))] → W p l e ({ frames := 4, cells := 0, slots := 0, locals := 90 } : Room) s m args below meth c H locs 0 0 (MQ below (Qi D ct ad L φ N0 Q) args s 0 0 (AA N0)) (F0 m 49 ls [])) (hK135 : ∀ (σ : St) (x2 : Int) (x3 : Int) (x4 : Int) (x5 : Int) (H : Heap) (locs : List Loc) (ls : Array Slot), K135 σ x2 x3 x4 x5 → Hs D ct ad L φ N0 s.heap σ H locs → lv_has ls 9 [(2, .int (iv x2)), (3, .int (iv x3)), (4, .int (iv x4)), (5, .int (iv x5))] → W p l e ({ frames := 4, cells := 0, slots := 0, locals := 90 } : Room) s m args below meth c H locs 0 0 (MQ below (Qi D ct ad L φ N0 Q) args s 0 0 (AA N0)) (F0 m 135 ls [])) (σ : St) (x1 : Int) (x2 : Int) (x3 : Int) (x4 : Int) (x6 : Int) (x7 : Int) (x8 : Int) (y0 : Int) (H : Heap) (locs : List Loc) (ls : Array Slot) (hw : wp_X12_cruise_119 K49 K135 Q σ x1 x2 x3 x4 x6 x7 x8 y0) (h : Hs D ct ad L φ N0 s.heap σ H locs) (hl : lv_has ls 9 [(0, .ref (ad 12 0)), (1, .int (iv x1)), (2, .int (iv x2)), (3, .int (iv x3)), (4, .int (iv x4)), (6, .int (iv x6)), (7, .int (iv x7)), (8, .int (iv x8))]) : W p l e ({ frames := 4, cells := 0, slots := 0, locals := 90 } : Room) s m args below meth c H locs 0 0 (MQ below (Qi D ct ad L φ N0 Q) args s 0 0 (AA N0)) (F0 m 119 ls [.int (iv y0)]) := by
  have hF := X.2.2.2.2.2.2.2.2.1
  unfold wp_X12_cruise_119 at hw
  refine lv_istore (lv' := [(5, .int (iv y0)), (0, .ref (ad 12 0)), (1, .int (iv x1)), (2, .int (iv x2)), (3, .int (iv x3)), (4, .int (iv x4)), (6, .int (iv x6)), (7, .int (iv x7)), (8, .int (iv x8))]) X.1 X.2.1 dX12_cruise_119 hl (by decide) rfl (fun ls hl => ?_)
  refine lv_iload_n X.1 X.2.1 dX12_cruise_121 rfl (lv_at hl 4 rfl) ?_
  refine lv_iload X.1 X.2.1 dX12_cruise_122 (lv_at hl 8 rfl) ?_
  refine j_iadd X dX12_cruise_124 ?_
  refine j_bind (fun v_3 ev_3 => ?_)
  have hw := hw v_3 ev_3
  refine lv_istore_n (lv' := [(3, .int (iv v_3)), (5, .int (iv y0)), (0, .ref (ad 12 0)), (1, .int (iv x1)), (2, .int (iv x2)), (4, .int (iv x4)), (6, .int (iv x6)), (7, .int (iv x7)), (8, .int (iv x8))]) X.1 X.2.1 dX12_cruise_125 rfl hl (by decide) rfl (fun ls hl => ?_)
  refine j_iinc (kk9 := 6) (lv' := [(6, .int (iv (x6 + 1))), (3, .int (iv v_3)), (5, .int (iv y0)), (0, .ref (ad 12 0)), (1, .int (iv x1)), (2, .int (iv x2)), (4, .int (iv x4)), (7, .int (iv x7)), (8, .int (iv x8))]) X dX12_cruise_126 hl rfl (by decide) rfl (fun ls hl => ?_)
  exact lb_X12_cruise_129 X hK49 hK135 σ x1 x2 v_3 x4 y0 (x6 + 1) x7 _ _ _ hw h (lv_sub hl [3, 4, 5, 1, 6, 2, 0, 7] rfl)
set_option maxRecDepth 100000 in
set_option maxHeartbeats 4000000 in
theorem lb_X12_cruise_112 (X : Cx p s m meth c args cX12_cruise 9 (some .int) RX12 D ct L φ N0) {K49 : St → Int → Int → Int → Int → Int → Int → Int → Prop} {K135 : St → Int → Int → Int → Int → Prop} (hK49 : ∀ (σ : St) (x1 : Int) (x2 : Int) (x3 : Int) (x4 : Int) (x5 : Int) (x6 : Int) (x7 : Int) (H : Heap) (locs : List Loc) (ls : Array Slot), K49 σ x1 x2 x3 x4 x5 x6 x7 → Hs D ct ad L φ N0 s.heap σ H locs → lv_has ls 9 [(0, .ref (ad 12 0)), (1, .int (iv x1)), (2, .int (iv x2)), (3, .int (iv x3)), (4, .int (iv x4)), (5, .int (iv x5)), (6, .int (iv x6)), (7, .int (iv x7))] → W p l e ({ frames := 4, cells := 0, slots := 0, locals := 90 } : Room) s m args below meth c H locs 0 0 (MQ below (Qi D ct ad L φ N0 Q) args s 0 0 (AA N0)) (F0 m 49 ls [])) (hK135 : ∀ (σ : St) (x2 : Int) (x3 : Int) (x4 : Int) (x5 : Int) (H : Heap) (locs : List Loc) (ls : Array Slot), K135 σ x2 x3 x4 x5 → Hs D ct ad L φ N0 s.heap σ H locs → lv_has ls 9 [(2, .int (iv x2)), (3, .int (iv x3)), (4, .int (iv x4)), (5, .int (iv x5))] → W p l e ({ frames := 4, cells := 0, slots := 0, locals := 90 } : Room) s m args below meth c H locs 0 0 (MQ below (Qi D ct ad L φ N0 Q) args s 0 0 (AA N0)) (F0 m 135 ls [])) (σ : St) (x1 : Int) (x2 : Int) (x3 : Int) (x4 : Int) (x6 : Int) (x7 : Int) (x8 : Int) (H : Heap) (locs : List Loc) (ls : Array Slot) (hw : wp_X12_cruise_112 K49 K135 Q σ x1 x2 x3 x4 x6 x7 x8) (h : Hs D ct ad L φ N0 s.heap σ H locs) (hl : lv_has ls 9 [(0, .ref (ad 12 0)), (1, .int (iv x1)), (2, .int (iv x2)), (3, .int (iv x3)), (4, .int (iv x4)), (6, .int (iv x6)), (7, .int (iv x7)), (8, .int (iv x8))]) : W p l e ({ frames := 4, cells := 0, slots := 0, locals := 90 } : Room) s m args below meth c H locs 0 0 (MQ below (Qi D ct ad L φ N0 Q) args s 0 0 (AA N0)) (F0 m 112 ls []) := by
  have hF := X.2.2.2.2.2.2.2.2.1
  unfold wp_X12_cruise_112 at hw
  refine lv_iload X.1 X.2.1 dX12_cruise_112 (lv_at hl 7 rfl) ?_
  refine lv_goto (tgt := 119) X.1 X.2.1 dX12_cruise_114 (by decide) ?_
  exact lb_X12_cruise_119 X hK49 hK135 σ x1 x2 x3 x4 x6 x7 x8 x8 _ _ _ hw h (lv_sub hl [0, 1, 2, 3, 4, 5, 6, 7] rfl)
set_option maxRecDepth 100000 in
set_option maxHeartbeats 4000000 in
theorem lb_X12_cruise_98 (X : Cx p s m meth c args cX12_cruise 9 (some .int) RX12 D ct L φ N0) {K49 : St → Int → Int → Int → Int → Int → Int → Int → Prop} {K135 : St → Int → Int → Int → Int → Prop} (hK49 : ∀ (σ : St) (x1 : Int) (x2 : Int) (x3 : Int) (x4 : Int) (x5 : Int) (x6 : Int) (x7 : Int) (H : Heap) (locs : List Loc) (ls : Array Slot), K49 σ x1 x2 x3 x4 x5 x6 x7 → Hs D ct ad L φ N0 s.heap σ H locs → lv_has ls 9 [(0, .ref (ad 12 0)), (1, .int (iv x1)), (2, .int (iv x2)), (3, .int (iv x3)), (4, .int (iv x4)), (5, .int (iv x5)), (6, .int (iv x6)), (7, .int (iv x7))] → W p l e ({ frames := 4, cells := 0, slots := 0, locals := 90 } : Room) s m args below meth c H locs 0 0 (MQ below (Qi D ct ad L φ N0 Q) args s 0 0 (AA N0)) (F0 m 49 ls [])) (hK135 : ∀ (σ : St) (x2 : Int) (x3 : Int) (x4 : Int) (x5 : Int) (H : Heap) (locs : List Loc) (ls : Array Slot), K135 σ x2 x3 x4 x5 → Hs D ct ad L φ N0 s.heap σ H locs → lv_has ls 9 [(2, .int (iv x2)), (3, .int (iv x3)), (4, .int (iv x4)), (5, .int (iv x5))] → W p l e ({ frames := 4, cells := 0, slots := 0, locals := 90 } : Room) s m args below meth c H locs 0 0 (MQ below (Qi D ct ad L φ N0 Q) args s 0 0 (AA N0)) (F0 m 135 ls [])) (σ : St) (x1 : Int) (x2 : Int) (x3 : Int) (x5 : Int) (x6 : Int) (x7 : Int) (x8 : Int) (y0 : Int) (H : Heap) (locs : List Loc) (ls : Array Slot) (hw : wp_X12_cruise_98 K49 K135 Q σ x1 x2 x3 x5 x6 x7 x8 y0) (h : Hs D ct ad L φ N0 s.heap σ H locs) (hl : lv_has ls 9 [(0, .ref (ad 12 0)), (1, .int (iv x1)), (2, .int (iv x2)), (3, .int (iv x3)), (5, .int (iv x5)), (6, .int (iv x6)), (7, .int (iv x7)), (8, .int (iv x8))]) : W p l e ({ frames := 4, cells := 0, slots := 0, locals := 90 } : Room) s m args below meth c H locs 0 0 (MQ below (Qi D ct ad L φ N0 Q) args s 0 0 (AA N0)) (F0 m 98 ls [.int (iv y0)]) := by
  have hF := X.2.2.2.2.2.2.2.2.1
  unfold wp_X12_cruise_98 at hw
  refine lv_istore (lv' := [(4, .int (iv y0)), (0, .ref (ad 12 0)), (1, .int (iv x1)), (2, .int (iv x2)), (3, .int (iv x3)), (5, .int (iv x5)), (6, .int (iv x6)), (7, .int (iv x7)), (8, .int (iv x8))]) X.1 X.2.1 dX12_cruise_98 hl (by decide) rfl (fun ls hl => ?_)
  refine lv_iload X.1 X.2.1 dX12_cruise_100 (lv_at hl 6 rfl) ?_
  obtain ⟨g_4, hwt, hwf⟩ := hw
  refine j_if_eq (tgt := 112) X g_4 dX12_cruise_102 (by decide) (fun c_8 => ?_) (fun c_8 => ?_)
  · have hw := hwt c_8
    exact lb_X12_cruise_112 X hK49 hK135 σ x1 x2 x3 y0 x6 x7 x8 _ _ _ hw h (lv_sub hl [1, 2, 3, 4, 0, 6, 7, 8] rfl)
  · have hw := hwf c_8
    refine lv_iload X.1 X.2.1 dX12_cruise_105 (lv_at hl 8 rfl) ?_
    refine lv_iload X.1 X.2.1 dX12_cruise_107 (lv_at hl 5 rfl) ?_
    obtain ⟨g_5, g_6, hwt, hwf⟩ := hw
    refine j_cmp_le (tgt := 117) X g_5 g_6 dX12_cruise_109 (by decide) (fun c_7 => ?_) (fun c_7 => ?_)
    · have hw := hwt c_7
      refine lv_iload X.1 X.2.1 dX12_cruise_117 (lv_at hl 5 rfl) ?_
      exact lb_X12_cruise_119 X hK49 hK135 σ x1 x2 x3 y0 x6 x7 x8 x5 _ _ _ hw h (lv_sub hl [1, 2, 3, 4, 0, 6, 7, 8] rfl)
    · have hw := hwf c_7
      exact lb_X12_cruise_112 X hK49 hK135 σ x1 x2 x3 y0 x6 x7 x8 _ _ _ hw h (lv_sub hl [1, 2, 3, 4, 0, 6, 7, 8] rfl)
set_option maxRecDepth 100000 in
set_option maxHeartbeats 4000000 in
theorem lb_X12_cruise_91 (X : Cx p s m meth c args cX12_cruise 9 (some .int) RX12 D ct L φ N0) {K49 : St → Int → Int → Int → Int → Int → Int → Int → Prop} {K135 : St → Int → Int → Int → Int → Prop} (hK49 : ∀ (σ : St) (x1 : Int) (x2 : Int) (x3 : Int) (x4 : Int) (x5 : Int) (x6 : Int) (x7 : Int) (H : Heap) (locs : List Loc) (ls : Array Slot), K49 σ x1 x2 x3 x4 x5 x6 x7 → Hs D ct ad L φ N0 s.heap σ H locs → lv_has ls 9 [(0, .ref (ad 12 0)), (1, .int (iv x1)), (2, .int (iv x2)), (3, .int (iv x3)), (4, .int (iv x4)), (5, .int (iv x5)), (6, .int (iv x6)), (7, .int (iv x7))] → W p l e ({ frames := 4, cells := 0, slots := 0, locals := 90 } : Room) s m args below meth c H locs 0 0 (MQ below (Qi D ct ad L φ N0 Q) args s 0 0 (AA N0)) (F0 m 49 ls [])) (hK135 : ∀ (σ : St) (x2 : Int) (x3 : Int) (x4 : Int) (x5 : Int) (H : Heap) (locs : List Loc) (ls : Array Slot), K135 σ x2 x3 x4 x5 → Hs D ct ad L φ N0 s.heap σ H locs → lv_has ls 9 [(2, .int (iv x2)), (3, .int (iv x3)), (4, .int (iv x4)), (5, .int (iv x5))] → W p l e ({ frames := 4, cells := 0, slots := 0, locals := 90 } : Room) s m args below meth c H locs 0 0 (MQ below (Qi D ct ad L φ N0 Q) args s 0 0 (AA N0)) (F0 m 135 ls [])) (σ : St) (x1 : Int) (x2 : Int) (x3 : Int) (x5 : Int) (x6 : Int) (x7 : Int) (x8 : Int) (H : Heap) (locs : List Loc) (ls : Array Slot) (hw : wp_X12_cruise_91 K49 K135 Q σ x1 x2 x3 x5 x6 x7 x8) (h : Hs D ct ad L φ N0 s.heap σ H locs) (hl : lv_has ls 9 [(0, .ref (ad 12 0)), (1, .int (iv x1)), (2, .int (iv x2)), (3, .int (iv x3)), (5, .int (iv x5)), (6, .int (iv x6)), (7, .int (iv x7)), (8, .int (iv x8))]) : W p l e ({ frames := 4, cells := 0, slots := 0, locals := 90 } : Room) s m args below meth c H locs 0 0 (MQ below (Qi D ct ad L φ N0 Q) args s 0 0 (AA N0)) (F0 m 91 ls []) := by
  have hF := X.2.2.2.2.2.2.2.2.1
  unfold wp_X12_cruise_91 at hw
  refine lv_iload X.1 X.2.1 dX12_cruise_91 (lv_at hl 7 rfl) ?_
  refine lv_goto (tgt := 98) X.1 X.2.1 dX12_cruise_93 (by decide) ?_
  exact lb_X12_cruise_98 X hK49 hK135 σ x1 x2 x3 x5 x6 x7 x8 x8 _ _ _ hw h (lv_sub hl [0, 1, 2, 3, 4, 5, 6, 7] rfl)
set_option maxRecDepth 100000 in
set_option maxHeartbeats 4000000 in
theorem lb_X12_cruise_49 (X : Cx p s m meth c args cX12_cruise 9 (some .int) RX12 D ct L φ N0) {K135 : St → Int → Int → Int → Int → Prop} (hK135 : ∀ (σ : St) (x2 : Int) (x3 : Int) (x4 : Int) (x5 : Int) (H : Heap) (locs : List Loc) (ls : Array Slot), K135 σ x2 x3 x4 x5 → Hs D ct ad L φ N0 s.heap σ H locs → lv_has ls 9 [(2, .int (iv x2)), (3, .int (iv x3)), (4, .int (iv x4)), (5, .int (iv x5))] → W p l e ({ frames := 4, cells := 0, slots := 0, locals := 90 } : Room) s m args below meth c H locs 0 0 (MQ below (Qi D ct ad L φ N0 Q) args s 0 0 (AA N0)) (F0 m 135 ls [])) : ∀ (n : Nat) (σ : St) (x1 : Int) (x2 : Int) (x3 : Int) (x4 : Int) (x5 : Int) (x6 : Int) (x7 : Int) (H : Heap) (locs : List Loc) (ls : Array Slot), wp_X12_cruise_49 K135 Q n σ x1 x2 x3 x4 x5 x6 x7 → Hs D ct ad L φ N0 s.heap σ H locs → lv_has ls 9 [(0, .ref (ad 12 0)), (1, .int (iv x1)), (2, .int (iv x2)), (3, .int (iv x3)), (4, .int (iv x4)), (5, .int (iv x5)), (6, .int (iv x6)), (7, .int (iv x7))] → W p l e ({ frames := 4, cells := 0, slots := 0, locals := 90 } : Room) s m args below meth c H locs 0 0 (MQ below (Qi D ct ad L φ N0 Q) args s 0 0 (AA N0)) (F0 m 49 ls []) := by
  have hF := X.2.2.2.2.2.2.2.2.1
  intro n
  induction n with
  | zero => intro σ x1 x2 x3 x4 x5 x6 x7 H locs ls hw; exact hw.elim
  | succ n ih =>
    intro σ x1 x2 x3 x4 x5 x6 x7 H locs ls hw h hl
    unfold wp_X12_cruise_49 at hw
    refine lv_iload X.1 X.2.1 dX12_cruise_49 (lv_at hl 7 rfl) ?_
    refine lv_aload_n X.1 X.2.1 dX12_cruise_51 rfl (lv_at hl 0 rfl) ?_
    refine r_getR (ci := 12) X inw_12 h (hF.1 12 rfl).1 rfl rfl 97 (by decide) kw_1735 rfl ((hF.1 12 rfl).2 97) dX12_cruise_52 ?_
    refine lv_iload_n X.1 X.2.1 dX12_cruise_55 rfl (lv_at hl 1 rfl) ?_
    obtain ⟨g_9, g_10, hw⟩ := hw
    refine r_iald (n := 4) X h (hF.1 152 rfl).1 rfl (by decide) g_9 g_10 dX12_cruise_56 ?_
    obtain ⟨g_11, g_12, hwt, hwf⟩ := hw
    refine j_cmp_ge (tgt := 135) X g_11 g_12 dX12_cruise_57 (by decide) (fun c_22 => ?_) (fun c_22 => ?_)
    · have hw := hwt c_22
      exact hK135 σ x2 x3 x4 x5 _ _ _ hw h (lv_sub hl [2, 3, 4, 5] rfl)
    · have hw := hwf c_22
      refine lv_aload_n X.1 X.2.1 dX12_cruise_60 rfl (lv_at hl 0 rfl) ?_
      refine lv_iload_n X.1 X.2.1 dX12_cruise_61 rfl (lv_at hl 1 rfl) ?_
      refine lv_iload X.1 X.2.1 dX12_cruise_62 (lv_at hl 7 rfl) ?_
      refine k_i h (r_V (C := RX12) (ci := 12) (As := [.int (iv x1), .int (iv x7)]) (rest := []) X h (c_X12_told l D ct ad L φ N0 σ x1 x7 _ hw) rfl rfl ⟨Nat.le_of_ble_eq_true rfl, Nat.le_of_ble_eq_true rfl⟩ kw_2431 kw_2433 kw_117 kw_129 kw_2434 ⟨rfl, pd_X12_told⟩ (hF.1 12 rfl).1 rfl rfl rfl hl.1 rfl (Nat.le_of_ble_eq_true rfl) ⟨Nat.le_of_ble_eq_true rfl, Nat.le_of_ble_eq_true rfl⟩ dX12_cruise_64) (fun r_14 σ_13 H locs hw h => ?_)
      refine lv_istore (lv' := [(8, .int (iv r_14)), (0, .ref (ad 12 0)), (1, .int (iv x1)), (2, .int (iv x2)), (3, .int (iv x3)), (4, .int (iv x4)), (5, .int (iv x5)), (6, .int (iv x6)), (7, .int (iv x7))]) X.1 X.2.1 dX12_cruise_67 hl (by decide) rfl (fun ls hl => ?_)
      refine lv_aload_n X.1 X.2.1 dX12_cruise_69 rfl (lv_at hl 1 rfl) ?_
      refine r_get (ci := 12) X inw_12 h (hF.1 12 rfl).1 rfl rfl 102 (by decide) kw_1740 rfl dX12_cruise_70 ?_
      obtain ⟨g_15, hwt, hwf⟩ := hw
      refine j_if_ne (tgt := 79) X g_15 dX12_cruise_73 (by decide) (fun c_21 => ?_) (fun c_21 => ?_)
      · have hw := hwt c_21
        refine lv_iload X.1 X.2.1 dX12_cruise_79 (lv_at hl 7 rfl) ?_
        obtain ⟨g_16, hwt, hwf⟩ := hw
        refine j_if_eq (tgt := 91) X g_16 dX12_cruise_81 (by decide) (fun c_20 => ?_) (fun c_20 => ?_)
        · have hw := hwt c_20
          exact lb_X12_cruise_91 X ih hK135 σ_13 x1 x2 x3 x5 x6 x7 r_14 _ _ _ hw h (lv_sub hl [1, 2, 3, 4, 6, 7, 8, 0] rfl)
        · have hw := hwf c_20
          refine lv_iload X.1 X.2.1 dX12_cruise_84 (lv_at hl 0 rfl) ?_
          refine lv_iload X.1 X.2.1 dX12_cruise_86 (lv_at hl 5 rfl) ?_
          obtain ⟨g_17, g_18, hwt, hwf⟩ := hw
          refine j_cmp_ge (tgt := 96) X g_17 g_18 dX12_cruise_88 (by decide) (fun c_19 => ?_) (fun c_19 => ?_)
          · have hw := hwt c_19
            refine lv_iload X.1 X.2.1 dX12_cruise_96 (lv_at hl 5 rfl) ?_
            exact lb_X12_cruise_98 X ih hK135 σ_13 x1 x2 x3 x5 x6 x7 r_14 x4 _ _ _ hw h (lv_sub hl [1, 2, 3, 4, 6, 7, 8, 0] rfl)
          · have hw := hwf c_19
            exact lb_X12_cruise_91 X ih hK135 σ_13 x1 x2 x3 x5 x6 x7 r_14 _ _ _ hw h (lv_sub hl [1, 2, 3, 4, 6, 7, 8, 0] rfl)
      · have hw := hwf c_21
        refine lv_goto (tgt := 129) X.1 X.2.1 dX12_cruise_76 (by decide) ?_
        exact lb_X12_cruise_129 X ih hK135 σ_13 x1 x2 x3 x4 x5 x6 x7 _ _ _ hw h (lv_sub hl [1, 2, 3, 4, 5, 6, 7, 8] rfl)
theorem pd_X12_cruise : yX12_cruise.cls ≠ "java/lang/invoke/MethodHandle" ∧ yX12_cruise.cls ≠ "java/lang/invoke/VarHandle" ∧ (parseMethodDescriptor yX12_cruise.desc).map (fun d => d.parameters.length) = some 2 := by decide +kernel
set_option maxRecDepth 100000 in
set_option maxHeartbeats 4000000 in
theorem c_X12_cruise (l : Launch) (D : va_G) (ct : Nat → ClassId) (ad : Nat → Nat → Nat) (L : List (Nat × Nat)) (φ : Nat → Nat → Nat → Bool) (N0 : Nat) (σ : St) (x1 : Int) (x2 : Int) (Q : Int → St → Prop) (hw : wp_X12_cruise σ x1 x2 Q) : Met l yX12_cruise (.code yX12_cruise cX12_cruise 9 (some .int) :: gw) ({ frames := 4, cells := 0, slots := 0, locals := 90 } : Room) (Pm D ct ad L φ N0 σ [.ref (ad 12 0), .int (iv x1), .int (iv x2)]) (Qi D ct ad L φ N0 Q) 0 0 (AA N0) := by
  refine m_of (by decide) (fun p e s m below meth c X hnm h => ?_)
  have hF := X.2.2.2.2.2.2.2.2.1
  have hl := lv_entry ([.ref (ad 12 0), .int (iv x1), .int (iv x2)]) (n := 9) (Nat.le_of_ble_eq_true rfl)
  rw [lg_entry_eq]
  generalize (lg_sl ([.ref (ad 12 0), .int (iv x1), .int (iv x2)]) ++ List.replicate (9 - (lg_sl ([.ref (ad 12 0), .int (iv x1), .int (iv x2)])).length) Slot.unset).toArray = ls at hl ⊢
  have hl : lv_has ls 9 [(0, .ref (ad 12 0)), (1, .int (iv x1)), (2, .int (iv x2))] := hl
  have h : Hs D ct ad L φ N0 s.heap σ s.heap [] := h
  unfold wp_X12_cruise at hw
  refine lv_aload_n X.1 X.2.1 dX12_cruise_0 rfl (lv_at hl 0 rfl) ?_
  refine j_iconst X dX12_cruise_1 ?_
  refine r_put (ci := 12) X inw_12 tyX12 tyX12_ok nmX12 h (hF.1 12 rfl).1 rfl rfl 0 (by decide) kw_1638 rfl rfl rfl (Nat.le_of_ble_eq_true rfl) rfl rfl dX12_cruise_2 (fun H locs h => ?_)
  obtain ⟨σ_23, eσ_23⟩ : ∃ z : St, z = st σ 12 0 0 0 := ⟨_, rfl⟩
  rw [← eσ_23] at h
  have hw := hw σ_23 eσ_23
  refine lv_iload_n X.1 X.2.1 dX12_cruise_5 rfl (lv_at hl 1 rfl) ?_
  refine j_iconst X dX12_cruise_6 ?_
  refine j_iconst X dX12_cruise_7 ?_
  refine k_i h (r_S (As := [.int (iv x1), .int (iv 0), .int (iv 3)]) (rest := []) X h (c_X12_within l D ct ad L φ N0 σ_23 x1 0 3 _ hw) rfl rfl ⟨Nat.le_of_ble_eq_true rfl, Nat.le_of_ble_eq_true rfl⟩ kw_1959 kw_1960 kw_129 kw_1961 pd_X12_within rfl hl.1 rfl (Nat.le_of_ble_eq_true rfl) ⟨Nat.le_of_ble_eq_true rfl, Nat.le_of_ble_eq_true rfl⟩ dX12_cruise_8) (fun r_25 σ_24 H locs hw h => ?_)
  obtain ⟨g_26, hwt, hwf⟩ := hw
  refine j_if_eq (tgt := 33) X g_26 dX12_cruise_11 (by decide) (fun c_35 => ?_) (fun c_35 => ?_)
  · have hw := hwt c_35
    refine j_iconst X dX12_cruise_33 ?_
    exact k_ir X rfl h hw dX12_cruise_34
  · have hw := hwf c_35
    refine lv_aload_n X.1 X.2.1 dX12_cruise_14 rfl (lv_at hl 0 rfl) ?_
    refine r_getR (ci := 12) X inw_12 h (hF.1 12 rfl).1 rfl rfl 97 (by decide) kw_1735 rfl ((hF.1 12 rfl).2 97) dX12_cruise_15 ?_
    refine lv_iload_n X.1 X.2.1 dX12_cruise_18 rfl (lv_at hl 1 rfl) ?_
    obtain ⟨g_27, g_28, hw⟩ := hw
    refine r_iald (n := 4) X h (hF.1 152 rfl).1 rfl (by decide) g_27 g_28 dX12_cruise_19 ?_
    refine j_iconst X dX12_cruise_20 ?_
    obtain ⟨g_29, hwt, hwf⟩ := hw
    refine j_cmp_eq (tgt := 33) X g_29 ⟨by decide, by decide⟩ dX12_cruise_21 (by decide) (fun c_34 => ?_) (fun c_34 => ?_)
    · have hw := hwt c_34
      refine j_iconst X dX12_cruise_33 ?_
      exact k_ir X rfl h hw dX12_cruise_34
    · have hw := hwf c_34
      refine lv_iload_n X.1 X.2.1 dX12_cruise_24 rfl (lv_at hl 2 rfl) ?_
      refine j_iconst X dX12_cruise_25 ?_
      refine j_iconst X dX12_cruise_26 ?_
      refine k_i h (r_S (As := [.int (iv x2), .int (iv 0), .int (iv 1)]) (rest := []) X h (c_X12_within l D ct ad L φ N0 σ_24 x2 0 1 _ hw) rfl rfl ⟨Nat.le_of_ble_eq_true rfl, Nat.le_of_ble_eq_true rfl⟩ kw_1959 kw_1960 kw_129 kw_1961 pd_X12_within rfl hl.1 rfl (Nat.le_of_ble_eq_true rfl) ⟨Nat.le_of_ble_eq_true rfl, Nat.le_of_ble_eq_true rfl⟩ dX12_cruise_27) (fun r_31 σ_30 H locs hw h => ?_)
      obtain ⟨g_32, hwt, hwf⟩ := hw
      refine j_if_ne (tgt := 35) X g_32 dX12_cruise_30 (by decide) (fun c_33 => ?_) (fun c_33 => ?_)
      · have hw := hwt c_33
        refine j_iconst X dX12_cruise_35 ?_
        refine lv_istore_n (lv' := [(3, .int (iv 0)), (0, .ref (ad 12 0)), (1, .int (iv x1)), (2, .int (iv x2))]) X.1 X.2.1 dX12_cruise_36 rfl hl (by decide) rfl (fun ls hl => ?_)
        refine j_iconst X dX12_cruise_37 ?_
        refine lv_istore (lv' := [(4, .int (iv 0)), (3, .int (iv 0)), (0, .ref (ad 12 0)), (1, .int (iv x1)), (2, .int (iv x2))]) X.1 X.2.1 dX12_cruise_38 hl (by decide) rfl (fun ls hl => ?_)
        refine j_iconst X dX12_cruise_40 ?_
        refine lv_istore (lv' := [(5, .int (iv 0)), (4, .int (iv 0)), (3, .int (iv 0)), (0, .ref (ad 12 0)), (1, .int (iv x1)), (2, .int (iv x2))]) X.1 X.2.1 dX12_cruise_41 hl (by decide) rfl (fun ls hl => ?_)
        refine j_iconst X dX12_cruise_43 ?_
        refine lv_istore (lv' := [(6, .int (iv 0)), (5, .int (iv 0)), (4, .int (iv 0)), (3, .int (iv 0)), (0, .ref (ad 12 0)), (1, .int (iv x1)), (2, .int (iv x2))]) X.1 X.2.1 dX12_cruise_44 hl (by decide) rfl (fun ls hl => ?_)
        refine j_iconst X dX12_cruise_46 ?_
        refine lv_istore (lv' := [(7, .int (iv 0)), (6, .int (iv 0)), (5, .int (iv 0)), (4, .int (iv 0)), (3, .int (iv 0)), (0, .ref (ad 12 0)), (1, .int (iv x1)), (2, .int (iv x2))]) X.1 X.2.1 dX12_cruise_47 hl (by decide) rfl (fun ls hl => ?_)
        exact hw.elim (fun n49 hw => lb_X12_cruise_49 X (lb_X12_cruise_135 X) n49 σ_30 x1 x2 0 0 0 0 0 _ _ _ hw h (lv_sub hl [5, 6, 7, 4, 3, 2, 1, 0] rfl))
      · have hw := hwf c_33
        refine j_iconst X dX12_cruise_33 ?_
        exact k_ir X rfl h hw dX12_cruise_34
end
section
variable {p : Program} {l : Launch} {e : Env} {s : State} {m : MethodId} {args : Array Value} {below : List Frame} {meth : Method} {c : Code} {D : va_G} {ct : Nat → ClassId} {ad : Nat → Nat → Nat} {L : List (Nat × Nat)} {φ : Nat → Nat → Nat → Bool} {N0 : Nat}
variable {Q : Int → St → Prop}
set_option maxRecDepth 100000 in
set_option maxHeartbeats 4000000 in
theorem lb_X12_of_105 (X : Cx p s m meth c args cX12_of 5 (some .int) RX12 D ct L φ N0) {K69 : St → Int → Int → Int → Prop} (hK69 : ∀ (σ : St) (x1 : Int) (x3 : Int) (x4 : Int) (H : Heap) (locs : List Loc) (ls : Array Slot), K69 σ x1 x3 x4 → Hs D ct ad L φ N0 s.heap σ H locs → lv_has ls 5 [(0, .ref (ad 12 0)), (1, .int (iv x1)), (3, .int (iv x3)), (4, .int (iv x4))] → W p l e ({ frames := 2, cells := 0, slots := 0, locals := 42 } : Room) s m args below meth c H locs 0 0 (MQ below (Qi D ct ad L φ N0 Q) args s 0 0 (AA N0)) (F0 m 69 ls [])) (σ : St) (x1 : Int) (x4 : Int) (y0 : Int) (y1 : Int) (H : Heap) (locs : List Loc) (ls : Array Slot) (hw : wp_X12_of_105 K69 Q σ x1 x4 y0 y1) (h : Hs D ct ad L φ N0 s.heap σ H locs) (hl : lv_has ls 5 [(0, .ref (ad 12 0)), (1, .int (iv x1)), (4, .int (iv x4))]) : W p l e ({ frames := 2, cells := 0, slots := 0, locals := 42 } : Room) s m args below meth c H locs 0 0 (MQ below (Qi D ct ad L φ N0 Q) args s 0 0 (AA N0)) (F0 m 105 ls [.int (iv y0), .int (iv y1)]) := by
  have hF := X.2.2.2.2.2.2.2.2.1
  unfold wp_X12_of_105 at hw
  refine j_iadd X dX12_of_105 ?_
  refine j_bind (fun v_1 ev_1 => ?_)
  have hw := hw v_1 ev_1
  refine lv_istore_n (lv' := [(3, .int (iv v_1)), (0, .ref (ad 12 0)), (1, .int (iv x1)), (4, .int (iv x4))]) X.1 X.2.1 dX12_of_106 rfl hl (by decide) rfl (fun ls hl => ?_)
  refine j_iinc (kk9 := 3) (lv' := [(4, .int (iv (x4 + 1))), (3, .int (iv v_1)), (0, .ref (ad 12 0)), (1, .int (iv x1))]) X dX12_of_107 hl rfl (by decide) rfl (fun ls hl => ?_)
  refine lv_goto (tgt := 69) X.1 X.2.1 dX12_of_110 (by decide) ?_
  exact hK69 σ x1 v_1 (x4 + 1) _ _ _ hw h (lv_sub hl [2, 3, 1, 0] rfl)
set_option maxRecDepth 100000 in
set_option maxHeartbeats 4000000 in
theorem lb_X12_of_104 (X : Cx p s m meth c args cX12_of 5 (some .int) RX12 D ct L φ N0) {K69 : St → Int → Int → Int → Prop} (hK69 : ∀ (σ : St) (x1 : Int) (x3 : Int) (x4 : Int) (H : Heap) (locs : List Loc) (ls : Array Slot), K69 σ x1 x3 x4 → Hs D ct ad L φ N0 s.heap σ H locs → lv_has ls 5 [(0, .ref (ad 12 0)), (1, .int (iv x1)), (3, .int (iv x3)), (4, .int (iv x4))] → W p l e ({ frames := 2, cells := 0, slots := 0, locals := 42 } : Room) s m args below meth c H locs 0 0 (MQ below (Qi D ct ad L φ N0 Q) args s 0 0 (AA N0)) (F0 m 69 ls [])) (σ : St) (x1 : Int) (x4 : Int) (y0 : Int) (H : Heap) (locs : List Loc) (ls : Array Slot) (hw : wp_X12_of_104 K69 Q σ x1 x4 y0) (h : Hs D ct ad L φ N0 s.heap σ H locs) (hl : lv_has ls 5 [(0, .ref (ad 12 0)), (1, .int (iv x1)), (4, .int (iv x4))]) : W p l e ({ frames := 2, cells := 0, slots := 0, locals := 42 } : Room) s m args below meth c H locs 0 0 (MQ below (Qi D ct ad L φ N0 Q) args s 0 0 (AA N0)) (F0 m 104 ls [.int (iv y0)]) := by
  have hF := X.2.2.2.2.2.2.2.2.1
  unfold wp_X12_of_104 at hw
  refine j_iconst X dX12_of_104 ?_
  exact lb_X12_of_105 X hK69 σ x1 x4 0 y0 _ _ _ hw h (lv_sub hl [0, 1, 2] rfl)
set_option maxRecDepth 100000 in
set_option maxHeartbeats 4000000 in
theorem lb_X12_of_69 (X : Cx p s m meth c args cX12_of 5 (some .int) RX12 D ct L φ N0) : ∀ (n : Nat) (σ : St) (x1 : Int) (x3 : Int) (x4 : Int) (H : Heap) (locs : List Loc) (ls : Array Slot), wp_X12_of_69 Q n σ x1 x3 x4 → Hs D ct ad L φ N0 s.heap σ H locs → lv_has ls 5 [(0, .ref (ad 12 0)), (1, .int (iv x1)), (3, .int (iv x3)), (4, .int (iv x4))] → W p l e ({ frames := 2, cells := 0, slots := 0, locals := 42 } : Room) s m args below meth c H locs 0 0 (MQ below (Qi D ct ad L φ N0 Q) args s 0 0 (AA N0)) (F0 m 69 ls []) := by
  have hF := X.2.2.2.2.2.2.2.2.1
  intro n
  induction n with
  | zero => intro σ x1 x3 x4 H locs ls hw; exact hw.elim
  | succ n ih =>
    intro σ x1 x3 x4 H locs ls hw h hl
    unfold wp_X12_of_69 at hw
    refine lv_iload X.1 X.2.1 dX12_of_69 (lv_at hl 3 rfl) ?_
    refine lv_aload_n X.1 X.2.1 dX12_of_71 rfl (lv_at hl 0 rfl) ?_
    refine r_get (ci := 12) X inw_12 h (hF.1 12 rfl).1 rfl rfl 17 (by decide) kw_1655 rfl dX12_of_72 ?_
    obtain ⟨g_2, g_3, hwt, hwf⟩ := hw
    refine j_cmp_ge (tgt := 113) X g_2 g_3 dX12_of_75 (by decide) (fun c_13 => ?_) (fun c_13 => ?_)
    · have hw := hwt c_13
      refine lv_iload_n X.1 X.2.1 dX12_of_113 rfl (lv_at hl 2 rfl) ?_
      exact k_ir X rfl h hw dX12_of_114
    · have hw := hwf c_13
      refine lv_iload_n X.1 X.2.1 dX12_of_78 rfl (lv_at hl 2 rfl) ?_
      refine lv_aload_n X.1 X.2.1 dX12_of_79 rfl (lv_at hl 0 rfl) ?_
      refine r_getR (ci := 12) X inw_12 h (hF.1 12 rfl).1 rfl rfl 25 (by decide) kw_1663 rfl ((hF.1 12 rfl).2 25) dX12_of_80 ?_
      refine lv_iload X.1 X.2.1 dX12_of_83 (lv_at hl 3 rfl) ?_
      obtain ⟨g_4, g_5, hw⟩ := hw
      refine r_iald (n := 300) X h (hF.1 102 rfl).1 rfl (by decide) g_4 g_5 dX12_of_85 ?_
      obtain ⟨g_6, hwt, hwf⟩ := hw
      refine j_if_ne (tgt := 104) X g_6 dX12_of_86 (by decide) (fun c_12 => ?_) (fun c_12 => ?_)
      · have hw := hwt c_12
        exact lb_X12_of_104 X ih σ x1 x4 x3 _ _ _ hw h (lv_sub hl [0, 1, 3] rfl)
      · have hw := hwf c_12
        refine lv_aload_n X.1 X.2.1 dX12_of_89 rfl (lv_at hl 0 rfl) ?_
        refine r_getR (ci := 12) X inw_12 h (hF.1 12 rfl).1 rfl rfl 18 (by decide) kw_1656 rfl ((hF.1 12 rfl).2 18) dX12_of_90 ?_
        refine lv_iload X.1 X.2.1 dX12_of_93 (lv_at hl 3 rfl) ?_
        obtain ⟨g_7, g_8, hw⟩ := hw
        refine r_iald (n := 300) X h (hF.1 95 rfl).1 rfl (by decide) g_7 g_8 dX12_of_95 ?_
        refine lv_iload_n X.1 X.2.1 dX12_of_96 rfl (lv_at hl 1 rfl) ?_
        obtain ⟨g_9, g_10, hwt, hwf⟩ := hw
        refine j_cmp_ne (tgt := 104) X g_9 g_10 dX12_of_97 (by decide) (fun c_11 => ?_) (fun c_11 => ?_)
        · have hw := hwt c_11
          exact lb_X12_of_104 X ih σ x1 x4 x3 _ _ _ hw h (lv_sub hl [0, 1, 3] rfl)
        · have hw := hwf c_11
          refine j_iconst X dX12_of_100 ?_
          refine lv_goto (tgt := 105) X.1 X.2.1 dX12_of_101 (by decide) ?_
          exact lb_X12_of_105 X ih σ x1 x4 1 x3 _ _ _ hw h (lv_sub hl [0, 1, 3] rfl)
theorem pd_X12_of : yX12_of.cls ≠ "java/lang/invoke/MethodHandle" ∧ yX12_of.cls ≠ "java/lang/invoke/VarHandle" ∧ (parseMethodDescriptor yX12_of.desc).map (fun d => d.parameters.length) = some 2 := by decide +kernel
set_option maxRecDepth 100000 in
set_option maxHeartbeats 4000000 in
theorem c_X12_of (l : Launch) (D : va_G) (ct : Nat → ClassId) (ad : Nat → Nat → Nat) (L : List (Nat × Nat)) (φ : Nat → Nat → Nat → Bool) (N0 : Nat) (σ : St) (x1 : Int) (x2 : Int) (Q : Int → St → Prop) (hw : wp_X12_of σ x1 x2 Q) : Met l yX12_of (.code yX12_of cX12_of 5 (some .int) :: gw) ({ frames := 2, cells := 0, slots := 0, locals := 42 } : Room) (Pm D ct ad L φ N0 σ [.ref (ad 12 0), .int (iv x1), .int (iv x2)]) (Qi D ct ad L φ N0 Q) 0 0 (AA N0) := by
  refine m_of (by decide) (fun p e s m below meth c X hnm h => ?_)
  have hF := X.2.2.2.2.2.2.2.2.1
  have hl := lv_entry ([.ref (ad 12 0), .int (iv x1), .int (iv x2)]) (n := 5) (Nat.le_of_ble_eq_true rfl)
  rw [lg_entry_eq]
  generalize (lg_sl ([.ref (ad 12 0), .int (iv x1), .int (iv x2)]) ++ List.replicate (5 - (lg_sl ([.ref (ad 12 0), .int (iv x1), .int (iv x2)])).length) Slot.unset).toArray = ls at hl ⊢
  have hl : lv_has ls 5 [(0, .ref (ad 12 0)), (1, .int (iv x1)), (2, .int (iv x2))] := hl
  have h : Hs D ct ad L φ N0 s.heap σ s.heap [] := h
  unfold wp_X12_of at hw
  refine lv_aload_n X.1 X.2.1 dX12_of_0 rfl (lv_at hl 0 rfl) ?_
  refine j_iconst X dX12_of_1 ?_
  refine r_put (ci := 12) X inw_12 tyX12 tyX12_ok nmX12 h (hF.1 12 rfl).1 rfl rfl 0 (by decide) kw_1638 rfl rfl rfl (Nat.le_of_ble_eq_true rfl) rfl rfl dX12_of_2 (fun H locs h => ?_)
  obtain ⟨σ_14, eσ_14⟩ : ∃ z : St, z = st σ 12 0 0 0 := ⟨_, rfl⟩
  rw [← eσ_14] at h
  have hw := hw σ_14 eσ_14
  refine lv_iload_n X.1 X.2.1 dX12_of_5 rfl (lv_at hl 1 rfl) ?_
  refine k_i h (r_S (As := [.int (iv x1)]) (rest := []) X h (c_X12_isCell l D ct ad L φ N0 σ_14 x1 _ hw) rfl rfl ⟨Nat.le_of_ble_eq_true rfl, Nat.le_of_ble_eq_true rfl⟩ kw_1956 kw_1957 kw_129 kw_1958 pd_X12_isCell rfl hl.1 rfl (Nat.le_of_ble_eq_true rfl) ⟨Nat.le_of_ble_eq_true rfl, Nat.le_of_ble_eq_true rfl⟩ dX12_of_6) (fun r_16 σ_15 H locs hw h => ?_)
  obtain ⟨g_17, hwt, hwf⟩ := hw
  refine j_if_ne (tgt := 14) X g_17 dX12_of_9 (by decide) (fun c_39 => ?_) (fun c_39 => ?_)
  · have hw := hwt c_39
    refine j_iconst X dX12_of_14 ?_
    refine lv_istore_n (lv' := [(3, .int (iv 0)), (0, .ref (ad 12 0)), (1, .int (iv x1)), (2, .int (iv x2))]) X.1 X.2.1 dX12_of_15 rfl hl (by decide) rfl (fun ls hl => ?_)
    refine lv_iload_n X.1 X.2.1 dX12_of_16 rfl (lv_at hl 3 rfl) ?_
    obtain ⟨g_18, hw0, hw1, hw2, hw3, hw4, hw5⟩ := hw
    by_cases c_33 : x2 = 0
    · have hw := hw0 c_33
      refine j_tin (v := 0) (tgt := 52) X g_18 c_33 dX12_of_17 (by decide) (by decide) rfl (by decide) ?_
      refine lv_aload_n X.1 X.2.1 dX12_of_52 rfl (lv_at hl 1 rfl) ?_
      refine r_getR (ci := 12) X inw_12 h (hF.1 12 rfl).1 rfl rfl 2 (by decide) kw_1640 rfl ((hF.1 12 rfl).2 2) dX12_of_53 ?_
      refine lv_iload_n X.1 X.2.1 dX12_of_56 rfl (lv_at hl 2 rfl) ?_
      obtain ⟨g_19, g_20, hw⟩ := hw
      refine r_iald (n := 64) X h (hF.1 83 rfl).1 rfl (by decide) g_19 g_20 dX12_of_57 ?_
      exact k_ir X rfl h hw dX12_of_58
    by_cases c_34 : x2 = 1
    · have hw := hw1 c_34
      refine j_tin (v := 1) (tgt := 59) X g_18 c_34 dX12_of_17 (by decide) (by decide) rfl (by decide) ?_
      refine lv_aload_n X.1 X.2.1 dX12_of_59 rfl (lv_at hl 1 rfl) ?_
      refine r_getR (ci := 12) X inw_12 h (hF.1 12 rfl).1 rfl rfl 3 (by decide) kw_1641 rfl ((hF.1 12 rfl).2 3) dX12_of_60 ?_
      refine lv_iload_n X.1 X.2.1 dX12_of_63 rfl (lv_at hl 2 rfl) ?_
      obtain ⟨g_21, g_22, hw⟩ := hw
      refine r_iald (n := 64) X h (hF.1 84 rfl).1 rfl (by decide) g_21 g_22 dX12_of_64 ?_
      exact k_ir X rfl h hw dX12_of_65
    by_cases c_35 : x2 = 2
    · have hw := hw2 c_35
      refine j_tin (v := 2) (tgt := 66) X g_18 c_35 dX12_of_17 (by decide) (by decide) rfl (by decide) ?_
      refine j_iconst X dX12_of_66 ?_
      refine lv_istore (lv' := [(4, .int (iv 0)), (3, .int (iv 0)), (0, .ref (ad 12 0)), (1, .int (iv x1)), (2, .int (iv x2))]) X.1 X.2.1 dX12_of_67 hl (by decide) rfl (fun ls hl => ?_)
      exact hw.elim (fun n69 hw => lb_X12_of_69 X n69 σ_15 x1 0 0 _ _ _ hw h (lv_sub hl [2, 3, 1, 0] rfl))
    by_cases c_36 : x2 = 3
    · have hw := hw3 c_36
      refine j_tin (v := 3) (tgt := 115) X g_18 c_36 dX12_of_17 (by decide) (by decide) rfl (by decide) ?_
      refine lv_aload_n X.1 X.2.1 dX12_of_115 rfl (lv_at hl 1 rfl) ?_
      refine lv_iload_n X.1 X.2.1 dX12_of_116 rfl (lv_at hl 2 rfl) ?_
      refine k_i h (r_V (C := RX12) (ci := 12) (As := [.int (iv x1)]) (rest := []) X h (c_X12_farOf l D ct ad L φ N0 σ_15 x1 _ hw) rfl rfl ⟨Nat.le_of_ble_eq_true rfl, Nat.le_of_ble_eq_true rfl⟩ kw_2154 kw_2156 kw_85 kw_129 kw_2157 ⟨rfl, pd_X12_farOf⟩ (hF.1 12 rfl).1 rfl rfl rfl hl.1 rfl (Nat.le_of_ble_eq_true rfl) ⟨Nat.le_of_ble_eq_true rfl, Nat.le_of_ble_eq_true rfl⟩ dX12_of_117) (fun r_24 σ_23 H locs hw h => ?_)
      exact k_ir X rfl h hw dX12_of_120
    by_cases c_37 : x2 = 4
    · have hw := hw4 c_37
      refine j_tin (v := 4) (tgt := 121) X g_18 c_37 dX12_of_17 (by decide) (by decide) rfl (by decide) ?_
      refine lv_aload_n X.1 X.2.1 dX12_of_121 rfl (lv_at hl 1 rfl) ?_
      refine lv_iload_n X.1 X.2.1 dX12_of_122 rfl (lv_at hl 2 rfl) ?_
      refine k_i h (r_V (C := RX12) (ci := 12) (As := [.int (iv x1)]) (rest := []) X h (c_X12_stemsOf l D ct ad L φ N0 σ_15 x1 _ hw) rfl rfl ⟨Nat.le_of_ble_eq_true rfl, Nat.le_of_ble_eq_true rfl⟩ kw_2341 kw_2343 kw_106 kw_129 kw_2344 ⟨rfl, pd_X12_stemsOf⟩ (hF.1 12 rfl).1 rfl rfl rfl hl.1 rfl (Nat.le_of_ble_eq_true rfl) ⟨Nat.le_of_ble_eq_true rfl, Nat.le_of_ble_eq_true rfl⟩ dX12_of_123) (fun r_26 σ_25 H locs hw h => ?_)
      exact k_ir X rfl h hw dX12_of_126
    have c_38 : x2 < 0 ∨ 4 < x2 := by omega
    have hw := hw5 c_38
    refine j_tout (tgt := 127) X g_18 c_38 dX12_of_17 (by decide) ?_
    refine lv_iload_n X.1 X.2.1 dX12_of_127 rfl (lv_at hl 3 rfl) ?_
    refine j_iconst X dX12_of_128 ?_
    refine j_bipush X dX12_of_129 (by decide) ?_
    refine k_i h (r_S (As := [.int (iv x2), .int (iv 5), .int (iv 20)]) (rest := []) X h (c_X12_within l D ct ad L φ N0 σ_15 x2 5 20 _ hw) rfl rfl ⟨Nat.le_of_ble_eq_true rfl, Nat.le_of_ble_eq_true rfl⟩ kw_1959 kw_1960 kw_129 kw_1961 pd_X12_within rfl hl.1 rfl (Nat.le_of_ble_eq_true rfl) ⟨Nat.le_of_ble_eq_true rfl, Nat.le_of_ble_eq_true rfl⟩ dX12_of_131) (fun r_28 σ_27 H locs hw h => ?_)
    obtain ⟨g_29, hwt, hwf⟩ := hw
    refine j_if_eq (tgt := 153) X g_29 dX12_of_134 (by decide) (fun c_32 => ?_) (fun c_32 => ?_)
    · have hw := hwt c_32
      refine j_iconst X dX12_of_153 ?_
      exact k_ir X rfl h hw dX12_of_154
    · have hw := hwf c_32
      refine lv_aload_n X.1 X.2.1 dX12_of_137 rfl (lv_at hl 1 rfl) ?_
      refine r_getR (ci := 12) X inw_12 h (hF.1 12 rfl).1 rfl rfl 4 (by decide) kw_1642 rfl ((hF.1 12 rfl).2 4) dX12_of_138 ?_
      refine j_bipush X dX12_of_141 (by decide) ?_
      refine lv_iload_n X.1 X.2.1 dX12_of_143 rfl (lv_at hl 2 rfl) ?_
      refine j_imul X dX12_of_144 ?_
      refine lv_iload_n X.1 X.2.1 dX12_of_145 rfl (lv_at hl 3 rfl) ?_
      refine j_iadd X dX12_of_146 ?_
      refine j_iconst X dX12_of_147 ?_
      refine j_isub X dX12_of_148 ?_
      obtain ⟨g_30, g_31, hw⟩ := hw
      refine r_iald (n := 1024) X h (hF.1 85 rfl).1 rfl (by decide) g_30 g_31 dX12_of_149 ?_
      refine lv_goto (tgt := 154) X.1 X.2.1 dX12_of_150 (by decide) ?_
      exact k_ir X rfl h hw dX12_of_154
  · have hw := hwf c_39
    refine j_iconst X dX12_of_12 ?_
    exact k_ir X rfl h hw dX12_of_13
end
section
variable {p : Program} {l : Launch} {e : Env} {s : State} {m : MethodId} {args : Array Value} {below : List Frame} {meth : Method} {c : Code} {D : va_G} {ct : Nat → ClassId} {ad : Nat → Nat → Nat} {L : List (Nat × Nat)} {φ : Nat → Nat → Nat → Bool} {N0 : Nat}
variable {Q : Int → St → Prop}
theorem pd_X12_crewOf : yX12_crewOf.cls ≠ "java/lang/invoke/MethodHandle" ∧ yX12_crewOf.cls ≠ "java/lang/invoke/VarHandle" ∧ (parseMethodDescriptor yX12_crewOf.desc).map (fun d => d.parameters.length) = some 2 := by decide +kernel
set_option maxRecDepth 100000 in
set_option maxHeartbeats 4000000 in
theorem c_X12_crewOf (l : Launch) (D : va_G) (ct : Nat → ClassId) (ad : Nat → Nat → Nat) (L : List (Nat × Nat)) (φ : Nat → Nat → Nat → Bool) (N0 : Nat) (σ : St) (x1 : Int) (x2 : Int) (Q : Int → St → Prop) (hw : wp_X12_crewOf σ x1 x2 Q) : Met l yX12_crewOf (.code yX12_crewOf cX12_crewOf 3 (some .int) :: gw) ({ frames := 2, cells := 0, slots := 0, locals := 43 } : Room) (Pm D ct ad L φ N0 σ [.ref (ad 12 0), .int (iv x1), .int (iv x2)]) (Qi D ct ad L φ N0 Q) 0 0 (AA N0) := by
  refine m_of (by decide) (fun p e s m below meth c X hnm h => ?_)
  have hF := X.2.2.2.2.2.2.2.2.1
  have hl := lv_entry ([.ref (ad 12 0), .int (iv x1), .int (iv x2)]) (n := 3) (Nat.le_of_ble_eq_true rfl)
  rw [lg_entry_eq]
  generalize (lg_sl ([.ref (ad 12 0), .int (iv x1), .int (iv x2)]) ++ List.replicate (3 - (lg_sl ([.ref (ad 12 0), .int (iv x1), .int (iv x2)])).length) Slot.unset).toArray = ls at hl ⊢
  have hl : lv_has ls 3 [(0, .ref (ad 12 0)), (1, .int (iv x1)), (2, .int (iv x2))] := hl
  have h : Hs D ct ad L φ N0 s.heap σ s.heap [] := h
  unfold wp_X12_crewOf at hw
  refine lv_aload_n X.1 X.2.1 dX12_crewOf_0 rfl (lv_at hl 0 rfl) ?_
  refine j_iconst X dX12_crewOf_1 ?_
  refine r_put (ci := 12) X inw_12 tyX12 tyX12_ok nmX12 h (hF.1 12 rfl).1 rfl rfl 0 (by decide) kw_1638 rfl rfl rfl (Nat.le_of_ble_eq_true rfl) rfl rfl dX12_crewOf_2 (fun H locs h => ?_)
  obtain ⟨σ_1, eσ_1⟩ : ∃ z : St, z = st σ 12 0 0 0 := ⟨_, rfl⟩
  rw [← eσ_1] at h
  have hw := hw σ_1 eσ_1
  refine lv_aload_n X.1 X.2.1 dX12_crewOf_5 rfl (lv_at hl 0 rfl) ?_
  refine lv_iload_n X.1 X.2.1 dX12_crewOf_6 rfl (lv_at hl 1 rfl) ?_
  refine k_i h (r_V (C := RX12) (ci := 12) (As := [.int (iv x1)]) (rest := []) X h (c_X12_isCrew l D ct ad L φ N0 σ_1 x1 _ hw) rfl rfl ⟨Nat.le_of_ble_eq_true rfl, Nat.le_of_ble_eq_true rfl⟩ kw_2138 kw_2140 kw_81 kw_129 kw_2141 ⟨rfl, pd_X12_isCrew⟩ (hF.1 12 rfl).1 rfl rfl rfl hl.1 rfl (Nat.le_of_ble_eq_true rfl) ⟨Nat.le_of_ble_eq_true rfl, Nat.le_of_ble_eq_true rfl⟩ dX12_crewOf_7) (fun r_3 σ_2 H locs hw h => ?_)
  obtain ⟨g_4, hwt, hwf⟩ := hw
  refine j_if_ne (tgt := 15) X g_4 dX12_crewOf_10 (by decide) (fun c_24 => ?_) (fun c_24 => ?_)
  · have hw := hwt c_24
    refine lv_iload_n X.1 X.2.1 dX12_crewOf_15 rfl (lv_at hl 2 rfl) ?_
    obtain ⟨g_5, hw0, hw1, hw2, hw3, hw4, hw5⟩ := hw
    by_cases c_18 : x2 = 0
    · have hw := hw0 c_18
      refine j_tin (v := 0) (tgt := 52) X g_5 c_18 dX12_crewOf_16 (by decide) (by decide) rfl (by decide) ?_
      refine lv_aload_n X.1 X.2.1 dX12_crewOf_52 rfl (lv_at hl 0 rfl) ?_
      refine r_getR (ci := 12) X inw_12 h (hF.1 12 rfl).1 rfl rfl 61 (by decide) kw_1699 rfl ((hF.1 12 rfl).2 61) dX12_crewOf_53 ?_
      refine lv_iload_n X.1 X.2.1 dX12_crewOf_56 rfl (lv_at hl 1 rfl) ?_
      obtain ⟨g_6, g_7, hw⟩ := hw
      refine r_iald (n := 20) X h (hF.1 125 rfl).1 rfl (by decide) g_6 g_7 dX12_crewOf_57 ?_
      exact k_ir X rfl h hw dX12_crewOf_58
    by_cases c_19 : x2 = 1
    · have hw := hw1 c_19
      refine j_tin (v := 1) (tgt := 59) X g_5 c_19 dX12_crewOf_16 (by decide) (by decide) rfl (by decide) ?_
      refine lv_aload_n X.1 X.2.1 dX12_crewOf_59 rfl (lv_at hl 0 rfl) ?_
      refine r_getR (ci := 12) X inw_12 h (hF.1 12 rfl).1 rfl rfl 62 (by decide) kw_1700 rfl ((hF.1 12 rfl).2 62) dX12_crewOf_60 ?_
      refine lv_iload_n X.1 X.2.1 dX12_crewOf_63 rfl (lv_at hl 1 rfl) ?_
      obtain ⟨g_8, g_9, hw⟩ := hw
      refine r_iald (n := 20) X h (hF.1 126 rfl).1 rfl (by decide) g_8 g_9 dX12_crewOf_64 ?_
      exact k_ir X rfl h hw dX12_crewOf_65
    by_cases c_20 : x2 = 2
    · have hw := hw2 c_20
      refine j_tin (v := 2) (tgt := 66) X g_5 c_20 dX12_crewOf_16 (by decide) (by decide) rfl (by decide) ?_
      refine lv_aload_n X.1 X.2.1 dX12_crewOf_66 rfl (lv_at hl 0 rfl) ?_
      refine r_getR (ci := 12) X inw_12 h (hF.1 12 rfl).1 rfl rfl 63 (by decide) kw_1701 rfl ((hF.1 12 rfl).2 63) dX12_crewOf_67 ?_
      refine lv_iload_n X.1 X.2.1 dX12_crewOf_70 rfl (lv_at hl 1 rfl) ?_
      obtain ⟨g_10, g_11, hw⟩ := hw
      refine r_iald (n := 20) X h (hF.1 127 rfl).1 rfl (by decide) g_10 g_11 dX12_crewOf_71 ?_
      exact k_ir X rfl h hw dX12_crewOf_72
    by_cases c_21 : x2 = 3
    · have hw := hw3 c_21
      refine j_tin (v := 3) (tgt := 73) X g_5 c_21 dX12_crewOf_16 (by decide) (by decide) rfl (by decide) ?_
      refine lv_aload_n X.1 X.2.1 dX12_crewOf_73 rfl (lv_at hl 0 rfl) ?_
      refine r_getR (ci := 12) X inw_12 h (hF.1 12 rfl).1 rfl rfl 64 (by decide) kw_1702 rfl ((hF.1 12 rfl).2 64) dX12_crewOf_74 ?_
      refine lv_iload_n X.1 X.2.1 dX12_crewOf_77 rfl (lv_at hl 1 rfl) ?_
      obtain ⟨g_12, g_13, hw⟩ := hw
      refine r_iald (n := 20) X h (hF.1 128 rfl).1 rfl (by decide) g_12 g_13 dX12_crewOf_78 ?_
      exact k_ir X rfl h hw dX12_crewOf_79
    by_cases c_22 : x2 = 4
    · have hw := hw4 c_22
      refine j_tin (v := 4) (tgt := 80) X g_5 c_22 dX12_crewOf_16 (by decide) (by decide) rfl (by decide) ?_
      refine lv_aload_n X.1 X.2.1 dX12_crewOf_80 rfl (lv_at hl 0 rfl) ?_
      refine r_getR (ci := 12) X inw_12 h (hF.1 12 rfl).1 rfl rfl 65 (by decide) kw_1703 rfl ((hF.1 12 rfl).2 65) dX12_crewOf_81 ?_
      refine lv_iload_n X.1 X.2.1 dX12_crewOf_84 rfl (lv_at hl 1 rfl) ?_
      obtain ⟨g_14, g_15, hw⟩ := hw
      refine r_zald (n := 20) X h (hF.1 129 rfl).1 rfl (by decide) g_14 g_15 dX12_crewOf_85 ?_
      obtain ⟨g_16, hwt, hwf⟩ := hw
      refine j_if_eq (tgt := 93) X g_16 dX12_crewOf_86 (by decide) (fun c_17 => ?_) (fun c_17 => ?_)
      · have hw := hwt c_17
        refine j_iconst X dX12_crewOf_93 ?_
        exact k_ir X rfl h hw dX12_crewOf_94
      · have hw := hwf c_17
        refine j_iconst X dX12_crewOf_89 ?_
        refine lv_goto (tgt := 94) X.1 X.2.1 dX12_crewOf_90 (by decide) ?_
        exact k_ir X rfl h hw dX12_crewOf_94
    have c_23 : x2 < 0 ∨ 4 < x2 := by omega
    have hw := hw5 c_23
    refine j_tout (tgt := 95) X g_5 c_23 dX12_crewOf_16 (by decide) ?_
    refine j_iconst X dX12_crewOf_95 ?_
    exact k_ir X rfl h hw dX12_crewOf_96
  · have hw := hwf c_24
    refine j_iconst X dX12_crewOf_13 ?_
    exact k_ir X rfl h hw dX12_crewOf_14
end
section
variable {p : Program} {l : Launch} {e : Env} {s : State} {m : MethodId} {args : Array Value} {below : List Frame} {meth : Method} {c : Code} {D : va_G} {ct : Nat → ClassId} {ad : Nat → Nat → Nat} {L : List (Nat × Nat)} {φ : Nat → Nat → Nat → Bool} {N0 : Nat}
variable {Q : Int → St → Prop}
set_option maxRecDepth 100000 in
set_option maxHeartbeats 4000000 in
theorem lb_X12_count_261 (X : Cx p s m meth c args cX12_count 4 (some .int) RX12 D ct L φ N0) (σ : St) (x1 : Int) (x2 : Int) (H : Heap) (locs : List Loc) (ls : Array Slot) (hw : wp_X12_count_261 Q σ x1 x2) (h : Hs D ct ad L φ N0 s.heap σ H locs) (hl : lv_has ls 4 [(1, .int (iv x1)), (2, .int (iv x2))]) : W p l e ({ frames := 1, cells := 0, slots := 0, locals := 22 } : Room) s m args below meth c H locs 0 0 (MQ below (Qi D ct ad L φ N0 Q) args s 0 0 (AA N0)) (F0 m 261 ls []) := by
  have hF := X.2.2.2.2.2.2.2.2.1
  unfold wp_X12_count_261 at hw
  refine lv_iload_n X.1 X.2.1 dX12_count_261 rfl (lv_at hl 0 rfl) ?_
  refine j_bipush X dX12_count_262 (by decide) ?_
  refine j_bipush X dX12_count_264 (by decide) ?_
  refine k_i h (r_S (As := [.int (iv x1), .int (iv 20), .int (iv 24)]) (rest := []) X h (c_X12_within l D ct ad L φ N0 σ x1 20 24 _ hw) rfl rfl ⟨Nat.le_of_ble_eq_true rfl, Nat.le_of_ble_eq_true rfl⟩ kw_1959 kw_1960 kw_129 kw_1961 pd_X12_within rfl hl.1 rfl (Nat.le_of_ble_eq_true rfl) ⟨Nat.le_of_ble_eq_true rfl, Nat.le_of_ble_eq_true rfl⟩ dX12_count_266) (fun r_2 σ_1 H locs hw h => ?_)
  obtain ⟨g_3, hwt, hwf⟩ := hw
  refine j_if_eq (tgt := 276) X g_3 dX12_count_269 (by decide) (fun c_4 => ?_) (fun c_4 => ?_)
  · have hw := hwt c_4
    refine j_iconst X dX12_count_276 ?_
    exact k_ir X rfl h hw dX12_count_277
  · have hw := hwf c_4
    refine lv_iload_n X.1 X.2.1 dX12_count_272 rfl (lv_at hl 1 rfl) ?_
    refine lv_goto (tgt := 277) X.1 X.2.1 dX12_count_273 (by decide) ?_
    exact k_ir X rfl h hw dX12_count_277
set_option maxRecDepth 100000 in
set_option maxHeartbeats 4000000 in
theorem lb_X12_count_253 (X : Cx p s m meth c args cX12_count 4 (some .int) RX12 D ct L φ N0) {K226 : St → Int → Int → Int → Prop} {K261 : St → Int → Int → Prop} (hK226 : ∀ (σ : St) (x1 : Int) (x2 : Int) (x3 : Int) (H : Heap) (locs : List Loc) (ls : Array Slot), K226 σ x1 x2 x3 → Hs D ct ad L φ N0 s.heap σ H locs → lv_has ls 4 [(0, .ref (ad 12 0)), (1, .int (iv x1)), (2, .int (iv x2)), (3, .int (iv x3))] → W p l e ({ frames := 1, cells := 0, slots := 0, locals := 22 } : Room) s m args below meth c H locs 0 0 (MQ below (Qi D ct ad L φ N0 Q) args s 0 0 (AA N0)) (F0 m 226 ls [])) (hK261 : ∀ (σ : St) (x1 : Int) (x2 : Int) (H : Heap) (locs : List Loc) (ls : Array Slot), K261 σ x1 x2 → Hs D ct ad L φ N0 s.heap σ H locs → lv_has ls 4 [(1, .int (iv x1)), (2, .int (iv x2))] → W p l e ({ frames := 1, cells := 0, slots := 0, locals := 22 } : Room) s m args below meth c H locs 0 0 (MQ below (Qi D ct ad L φ N0 Q) args s 0 0 (AA N0)) (F0 m 261 ls [])) (σ : St) (x1 : Int) (x3 : Int) (y0 : Int) (y1 : Int) (H : Heap) (locs : List Loc) (ls : Array Slot) (hw : wp_X12_count_253 K226 K261 Q σ x1 x3 y0 y1) (h : Hs D ct ad L φ N0 s.heap σ H locs) (hl : lv_has ls 4 [(0, .ref (ad 12 0)), (1, .int (iv x1)), (3, .int (iv x3))]) : W p l e ({ frames := 1, cells := 0, slots := 0, locals := 22 } : Room) s m args below meth c H locs 0 0 (MQ below (Qi D ct ad L φ N0 Q) args s 0 0 (AA N0)) (F0 m 253 ls [.int (iv y0), .int (iv y1)]) := by
  have hF := X.2.2.2.2.2.2.2.2.1
  unfold wp_X12_count_253 at hw
  refine j_iadd X dX12_count_253 ?_
  refine j_bind (fun v_5 ev_5 => ?_)
  have hw := hw v_5 ev_5
  refine lv_istore_n (lv' := [(2, .int (iv v_5)), (0, .ref (ad 12 0)), (1, .int (iv x1)), (3, .int (iv x3))]) X.1 X.2.1 dX12_count_254 rfl hl (by decide) rfl (fun ls hl => ?_)
  refine j_iinc (kk9 := 3) (lv' := [(3, .int (iv (x3 + 1))), (2, .int (iv v_5)), (0, .ref (ad 12 0)), (1, .int (iv x1))]) X dX12_count_255 hl rfl (by decide) rfl (fun ls hl => ?_)
  refine lv_goto (tgt := 226) X.1 X.2.1 dX12_count_258 (by decide) ?_
  exact hK226 σ x1 v_5 (x3 + 1) _ _ _ hw h (lv_sub hl [2, 3, 1, 0] rfl)
set_option maxRecDepth 100000 in
set_option maxHeartbeats 4000000 in
theorem lb_X12_count_226 (X : Cx p s m meth c args cX12_count 4 (some .int) RX12 D ct L φ N0) {K261 : St → Int → Int → Prop} (hK261 : ∀ (σ : St) (x1 : Int) (x2 : Int) (H : Heap) (locs : List Loc) (ls : Array Slot), K261 σ x1 x2 → Hs D ct ad L φ N0 s.heap σ H locs → lv_has ls 4 [(1, .int (iv x1)), (2, .int (iv x2))] → W p l e ({ frames := 1, cells := 0, slots := 0, locals := 22 } : Room) s m args below meth c H locs 0 0 (MQ below (Qi D ct ad L φ N0 Q) args s 0 0 (AA N0)) (F0 m 261 ls [])) : ∀ (n : Nat) (σ : St) (x1 : Int) (x2 : Int) (x3 : Int) (H : Heap) (locs : List Loc) (ls : Array Slot), wp_X12_count_226 K261 Q n σ x1 x2 x3 → Hs D ct ad L φ N0 s.heap σ H locs → lv_has ls 4 [(0, .ref (ad 12 0)), (1, .int (iv x1)), (2, .int (iv x2)), (3, .int (iv x3))] → W p l e ({ frames := 1, cells := 0, slots := 0, locals := 22 } : Room) s m args below meth c H locs 0 0 (MQ below (Qi D ct ad L φ N0 Q) args s 0 0 (AA N0)) (F0 m 226 ls []) := by
  have hF := X.2.2.2.2.2.2.2.2.1
  intro n
  induction n with
  | zero => intro σ x1 x2 x3 H locs ls hw; exact hw.elim
  | succ n ih =>
    intro σ x1 x2 x3 H locs ls hw h hl
    unfold wp_X12_count_226 at hw
    refine lv_iload_n X.1 X.2.1 dX12_count_226 rfl (lv_at hl 3 rfl) ?_
    refine lv_aload_n X.1 X.2.1 dX12_count_227 rfl (lv_at hl 0 rfl) ?_
    refine r_get (ci := 12) X inw_12 h (hF.1 12 rfl).1 rfl rfl 17 (by decide) kw_1655 rfl dX12_count_228 ?_
    obtain ⟨g_6, g_7, hwt, hwf⟩ := hw
    refine j_cmp_ge (tgt := 261) X g_6 g_7 dX12_count_231 (by decide) (fun c_13 => ?_) (fun c_13 => ?_)
    · have hw := hwt c_13
      exact hK261 σ x1 x2 _ _ _ hw h (lv_sub hl [1, 2] rfl)
    · have hw := hwf c_13
      refine lv_iload_n X.1 X.2.1 dX12_count_234 rfl (lv_at hl 2 rfl) ?_
      refine lv_aload_n X.1 X.2.1 dX12_count_235 rfl (lv_at hl 0 rfl) ?_
      refine r_getR (ci := 12) X inw_12 h (hF.1 12 rfl).1 rfl rfl 25 (by decide) kw_1663 rfl ((hF.1 12 rfl).2 25) dX12_count_236 ?_
      refine lv_iload_n X.1 X.2.1 dX12_count_239 rfl (lv_at hl 3 rfl) ?_
      obtain ⟨g_8, g_9, hw⟩ := hw
      refine r_iald (n := 300) X h (hF.1 102 rfl).1 rfl (by decide) g_8 g_9 dX12_count_240 ?_
      refine lv_iload_n X.1 X.2.1 dX12_count_241 rfl (lv_at hl 1 rfl) ?_
      refine j_bipush X dX12_count_242 (by decide) ?_
      refine j_isubw X dX12_count_244 ?_
      obtain ⟨g_10, g_11, hwt, hwf⟩ := hw
      refine j_cmp_ne (tgt := 252) X g_10 g_11 dX12_count_245 (by decide) (fun c_12 => ?_) (fun c_12 => ?_)
      · have hw := hwt c_12
        refine j_iconst X dX12_count_252 ?_
        exact lb_X12_count_253 X ih hK261 σ x1 x3 0 x2 _ _ _ hw h (lv_sub hl [0, 1, 3] rfl)
      · have hw := hwf c_12
        refine j_iconst X dX12_count_248 ?_
        refine lv_goto (tgt := 253) X.1 X.2.1 dX12_count_249 (by decide) ?_
        exact lb_X12_count_253 X ih hK261 σ x1 x3 1 x2 _ _ _ hw h (lv_sub hl [0, 1, 3] rfl)
set_option maxRecDepth 100000 in
set_option maxHeartbeats 4000000 in
theorem lb_X12_count_200 (X : Cx p s m meth c args cX12_count 4 (some .int) RX12 D ct L φ N0) : ∀ (n : Nat) (σ : St) (x2 : Int) (x3 : Int) (H : Heap) (locs : List Loc) (ls : Array Slot), wp_X12_count_200 Q n σ x2 x3 → Hs D ct ad L φ N0 s.heap σ H locs → lv_has ls 4 [(0, .ref (ad 12 0)), (2, .int (iv x2)), (3, .int (iv x3))] → W p l e ({ frames := 1, cells := 0, slots := 0, locals := 22 } : Room) s m args below meth c H locs 0 0 (MQ below (Qi D ct ad L φ N0 Q) args s 0 0 (AA N0)) (F0 m 200 ls []) := by
  have hF := X.2.2.2.2.2.2.2.2.1
  intro n
  induction n with
  | zero => intro σ x2 x3 H locs ls hw; exact hw.elim
  | succ n ih =>
    intro σ x2 x3 H locs ls hw h hl
    unfold wp_X12_count_200 at hw
    refine lv_iload_n X.1 X.2.1 dX12_count_200 rfl (lv_at hl 2 rfl) ?_
    refine j_sipush X dX12_count_201 (by decide) ?_
    obtain ⟨g_14, hwt, hwf⟩ := hw
    refine j_cmp_ge (tgt := 222) X g_14 ⟨by decide, by decide⟩ dX12_count_204 (by decide) (fun c_18 => ?_) (fun c_18 => ?_)
    · have hw := hwt c_18
      refine lv_iload_n X.1 X.2.1 dX12_count_222 rfl (lv_at hl 1 rfl) ?_
      exact k_ir X rfl h hw dX12_count_223
    · have hw := hwf c_18
      refine lv_iload_n X.1 X.2.1 dX12_count_207 rfl (lv_at hl 1 rfl) ?_
      refine lv_aload_n X.1 X.2.1 dX12_count_208 rfl (lv_at hl 0 rfl) ?_
      refine r_getR (ci := 12) X inw_12 h (hF.1 12 rfl).1 rfl rfl 4 (by decide) kw_1642 rfl ((hF.1 12 rfl).2 4) dX12_count_209 ?_
      refine lv_iload_n X.1 X.2.1 dX12_count_212 rfl (lv_at hl 2 rfl) ?_
      obtain ⟨g_15, g_16, hw⟩ := hw
      refine r_iald (n := 1024) X h (hF.1 85 rfl).1 rfl (by decide) g_15 g_16 dX12_count_213 ?_
      refine j_iadd X dX12_count_214 ?_
      refine j_bind (fun v_17 ev_17 => ?_)
      have hw := hw v_17 ev_17
      refine lv_istore_n (lv' := [(2, .int (iv v_17)), (0, .ref (ad 12 0)), (3, .int (iv x3))]) X.1 X.2.1 dX12_count_215 rfl hl (by decide) rfl (fun ls hl => ?_)
      refine j_iinc (kk9 := 2) (lv' := [(3, .int (iv (x3 + 1))), (2, .int (iv v_17)), (0, .ref (ad 12 0))]) X dX12_count_216 hl rfl (by decide) rfl (fun ls hl => ?_)
      refine lv_goto (tgt := 200) X.1 X.2.1 dX12_count_219 (by decide) ?_
      exact ih σ v_17 (x3 + 1) _ _ _ hw h (lv_sub hl [2, 1, 0] rfl)
set_option maxRecDepth 100000 in
set_option maxHeartbeats 4000000 in
theorem lb_X12_count_173 (X : Cx p s m meth c args cX12_count 4 (some .int) RX12 D ct L φ N0) : ∀ (n : Nat) (σ : St) (x2 : Int) (x3 : Int) (H : Heap) (locs : List Loc) (ls : Array Slot), wp_X12_count_173 Q n σ x2 x3 → Hs D ct ad L φ N0 s.heap σ H locs → lv_has ls 4 [(0, .ref (ad 12 0)), (2, .int (iv x2)), (3, .int (iv x3))] → W p l e ({ frames := 1, cells := 0, slots := 0, locals := 22 } : Room) s m args below meth c H locs 0 0 (MQ below (Qi D ct ad L φ N0 Q) args s 0 0 (AA N0)) (F0 m 173 ls []) := by
  have hF := X.2.2.2.2.2.2.2.2.1
  intro n
  induction n with
  | zero => intro σ x2 x3 H locs ls hw; exact hw.elim
  | succ n ih =>
    intro σ x2 x3 H locs ls hw h hl
    unfold wp_X12_count_173 at hw
    refine lv_iload_n X.1 X.2.1 dX12_count_173 rfl (lv_at hl 2 rfl) ?_
    refine lv_aload_n X.1 X.2.1 dX12_count_174 rfl (lv_at hl 0 rfl) ?_
    refine r_get (ci := 12) X inw_12 h (hF.1 12 rfl).1 rfl rfl 60 (by decide) kw_1698 rfl dX12_count_175 ?_
    obtain ⟨g_19, g_20, hwt, hwf⟩ := hw
    refine j_cmp_ge (tgt := 196) X g_19 g_20 dX12_count_178 (by decide) (fun c_24 => ?_) (fun c_24 => ?_)
    · have hw := hwt c_24
      refine lv_iload_n X.1 X.2.1 dX12_count_196 rfl (lv_at hl 1 rfl) ?_
      exact k_ir X rfl h hw dX12_count_197
    · have hw := hwf c_24
      refine lv_iload_n X.1 X.2.1 dX12_count_181 rfl (lv_at hl 1 rfl) ?_
      refine lv_aload_n X.1 X.2.1 dX12_count_182 rfl (lv_at hl 0 rfl) ?_
      refine r_getR (ci := 12) X inw_12 h (hF.1 12 rfl).1 rfl rfl 64 (by decide) kw_1702 rfl ((hF.1 12 rfl).2 64) dX12_count_183 ?_
      refine lv_iload_n X.1 X.2.1 dX12_count_186 rfl (lv_at hl 2 rfl) ?_
      obtain ⟨g_21, g_22, hw⟩ := hw
      refine r_iald (n := 20) X h (hF.1 128 rfl).1 rfl (by decide) g_21 g_22 dX12_count_187 ?_
      refine j_iadd X dX12_count_188 ?_
      refine j_bind (fun v_23 ev_23 => ?_)
      have hw := hw v_23 ev_23
      refine lv_istore_n (lv' := [(2, .int (iv v_23)), (0, .ref (ad 12 0)), (3, .int (iv x3))]) X.1 X.2.1 dX12_count_189 rfl hl (by decide) rfl (fun ls hl => ?_)
      refine j_iinc (kk9 := 2) (lv' := [(3, .int (iv (x3 + 1))), (2, .int (iv v_23)), (0, .ref (ad 12 0))]) X dX12_count_190 hl rfl (by decide) rfl (fun ls hl => ?_)
      refine lv_goto (tgt := 173) X.1 X.2.1 dX12_count_193 (by decide) ?_
      exact ih σ v_23 (x3 + 1) _ _ _ hw h (lv_sub hl [2, 1, 0] rfl)
set_option maxRecDepth 100000 in
set_option maxHeartbeats 4000000 in
theorem lb_X12_count_126 (X : Cx p s m meth c args cX12_count 4 (some .int) RX12 D ct L φ N0) {K102 : St → Int → Int → Prop} (hK102 : ∀ (σ : St) (x2 : Int) (x3 : Int) (H : Heap) (locs : List Loc) (ls : Array Slot), K102 σ x2 x3 → Hs D ct ad L φ N0 s.heap σ H locs → lv_has ls 4 [(0, .ref (ad 12 0)), (2, .int (iv x2)), (3, .int (iv x3))] → W p l e ({ frames := 1, cells := 0, slots := 0, locals := 22 } : Room) s m args below meth c H locs 0 0 (MQ below (Qi D ct ad L φ N0 Q) args s 0 0 (AA N0)) (F0 m 102 ls [])) (σ : St) (x3 : Int) (y0 : Int) (y1 : Int) (H : Heap) (locs : List Loc) (ls : Array Slot) (hw : wp_X12_count_126 K102 Q σ x3 y0 y1) (h : Hs D ct ad L φ N0 s.heap σ H locs) (hl : lv_has ls 4 [(0, .ref (ad 12 0)), (3, .int (iv x3))]) : W p l e ({ frames := 1, cells := 0, slots := 0, locals := 22 } : Room) s m args below meth c H locs 0 0 (MQ below (Qi D ct ad L φ N0 Q) args s 0 0 (AA N0)) (F0 m 126 ls [.int (iv y0), .int (iv y1)]) := by
  have hF := X.2.2.2.2.2.2.2.2.1
  unfold wp_X12_count_126 at hw
  refine j_iadd X dX12_count_126 ?_
  refine j_bind (fun v_25 ev_25 => ?_)
  have hw := hw v_25 ev_25
  refine lv_istore_n (lv' := [(2, .int (iv v_25)), (0, .ref (ad 12 0)), (3, .int (iv x3))]) X.1 X.2.1 dX12_count_127 rfl hl (by decide) rfl (fun ls hl => ?_)
  refine j_iinc (kk9 := 2) (lv' := [(3, .int (iv (x3 + 1))), (2, .int (iv v_25)), (0, .ref (ad 12 0))]) X dX12_count_128 hl rfl (by decide) rfl (fun ls hl => ?_)
  refine lv_goto (tgt := 102) X.1 X.2.1 dX12_count_131 (by decide) ?_
  exact hK102 σ v_25 (x3 + 1) _ _ _ hw h (lv_sub hl [2, 1, 0] rfl)
set_option maxRecDepth 100000 in
set_option maxHeartbeats 4000000 in
theorem lb_X12_count_102 (X : Cx p s m meth c args cX12_count 4 (some .int) RX12 D ct L φ N0) : ∀ (n : Nat) (σ : St) (x2 : Int) (x3 : Int) (H : Heap) (locs : List Loc) (ls : Array Slot), wp_X12_count_102 Q n σ x2 x3 → Hs D ct ad L φ N0 s.heap σ H locs → lv_has ls 4 [(0, .ref (ad 12 0)), (2, .int (iv x2)), (3, .int (iv x3))] → W p l e ({ frames := 1, cells := 0, slots := 0, locals := 22 } : Room) s m args below meth c H locs 0 0 (MQ below (Qi D ct ad L φ N0 Q) args s 0 0 (AA N0)) (F0 m 102 ls []) := by
  have hF := X.2.2.2.2.2.2.2.2.1
  intro n
  induction n with
  | zero => intro σ x2 x3 H locs ls hw; exact hw.elim
  | succ n ih =>
    intro σ x2 x3 H locs ls hw h hl
    unfold wp_X12_count_102 at hw
    refine lv_iload_n X.1 X.2.1 dX12_count_102 rfl (lv_at hl 2 rfl) ?_
    refine lv_aload_n X.1 X.2.1 dX12_count_103 rfl (lv_at hl 0 rfl) ?_
    refine r_get (ci := 12) X inw_12 h (hF.1 12 rfl).1 rfl rfl 53 (by decide) kw_1691 rfl dX12_count_104 ?_
    obtain ⟨g_26, g_27, hwt, hwf⟩ := hw
    refine j_cmp_ge (tgt := 134) X g_26 g_27 dX12_count_107 (by decide) (fun c_32 => ?_) (fun c_32 => ?_)
    · have hw := hwt c_32
      refine lv_iload_n X.1 X.2.1 dX12_count_134 rfl (lv_at hl 1 rfl) ?_
      exact k_ir X rfl h hw dX12_count_135
    · have hw := hwf c_32
      refine lv_iload_n X.1 X.2.1 dX12_count_110 rfl (lv_at hl 1 rfl) ?_
      refine lv_aload_n X.1 X.2.1 dX12_count_111 rfl (lv_at hl 0 rfl) ?_
      refine r_getR (ci := 12) X inw_12 h (hF.1 12 rfl).1 rfl rfl 57 (by decide) kw_1695 rfl ((hF.1 12 rfl).2 57) dX12_count_112 ?_
      refine lv_iload_n X.1 X.2.1 dX12_count_115 rfl (lv_at hl 2 rfl) ?_
      obtain ⟨g_28, g_29, hw⟩ := hw
      refine r_zald (n := 40) X h (hF.1 123 rfl).1 rfl (by decide) g_28 g_29 dX12_count_116 ?_
      obtain ⟨g_30, hwt, hwf⟩ := hw
      refine j_if_eq (tgt := 125) X g_30 dX12_count_117 (by decide) (fun c_31 => ?_) (fun c_31 => ?_)
      · have hw := hwt c_31
        refine j_iconst X dX12_count_125 ?_
        exact lb_X12_count_126 X ih σ x3 0 x2 _ _ _ hw h (lv_sub hl [0, 2] rfl)
      · have hw := hwf c_31
        refine j_bipush X dX12_count_120 (by decide) ?_
        refine lv_goto (tgt := 126) X.1 X.2.1 dX12_count_122 (by decide) ?_
        exact lb_X12_count_126 X ih σ x3 10 x2 _ _ _ hw h (lv_sub hl [0, 2] rfl)
theorem pd_X12_count : yX12_count.cls ≠ "java/lang/invoke/MethodHandle" ∧ yX12_count.cls ≠ "java/lang/invoke/VarHandle" ∧ (parseMethodDescriptor yX12_count.desc).map (fun d => d.parameters.length) = some 1 := by decide +kernel
set_option maxRecDepth 100000 in
set_option maxHeartbeats 4000000 in
theorem c_X12_count (l : Launch) (D : va_G) (ct : Nat → ClassId) (ad : Nat → Nat → Nat) (L : List (Nat × Nat)) (φ : Nat → Nat → Nat → Bool) (N0 : Nat) (σ : St) (x1 : Int) (Q : Int → St → Prop) (hw : wp_X12_count σ x1 Q) : Met l yX12_count (.code yX12_count cX12_count 4 (some .int) :: gw) ({ frames := 1, cells := 0, slots := 0, locals := 22 } : Room) (Pm D ct ad L φ N0 σ [.ref (ad 12 0), .int (iv x1)]) (Qi D ct ad L φ N0 Q) 0 0 (AA N0) := by
  refine m_of (by decide) (fun p e s m below meth c X hnm h => ?_)
  have hF := X.2.2.2.2.2.2.2.2.1
  have hl := lv_entry ([.ref (ad 12 0), .int (iv x1)]) (n := 4) (Nat.le_of_ble_eq_true rfl)
  rw [lg_entry_eq]
  generalize (lg_sl ([.ref (ad 12 0), .int (iv x1)]) ++ List.replicate (4 - (lg_sl ([.ref (ad 12 0), .int (iv x1)])).length) Slot.unset).toArray = ls at hl ⊢
  have hl : lv_has ls 4 [(0, .ref (ad 12 0)), (1, .int (iv x1))] := hl
  have h : Hs D ct ad L φ N0 s.heap σ s.heap [] := h
  unfold wp_X12_count at hw
  refine lv_aload_n X.1 X.2.1 dX12_count_0 rfl (lv_at hl 0 rfl) ?_
  refine j_iconst X dX12_count_1 ?_
  refine r_put (ci := 12) X inw_12 tyX12 tyX12_ok nmX12 h (hF.1 12 rfl).1 rfl rfl 0 (by decide) kw_1638 rfl rfl rfl (Nat.le_of_ble_eq_true rfl) rfl rfl dX12_count_2 (fun H locs h => ?_)
  obtain ⟨σ_33, eσ_33⟩ : ∃ z : St, z = st σ 12 0 0 0 := ⟨_, rfl⟩
  rw [← eσ_33] at h
  have hw := hw σ_33 eσ_33
  refine j_iconst X dX12_count_5 ?_
  refine lv_istore_n (lv' := [(2, .int (iv 0)), (0, .ref (ad 12 0)), (1, .int (iv x1))]) X.1 X.2.1 dX12_count_6 rfl hl (by decide) rfl (fun ls hl => ?_)
  refine lv_iload_n X.1 X.2.1 dX12_count_7 rfl (lv_at hl 2 rfl) ?_
  obtain ⟨g_34, hw0, hw1, hw2, hw3, hw4, hw5, hw6, hw7, hw8, hw9, hw10, hw11, hw12, hw13, hw14⟩ := hw
  by_cases c_35 : x1 = 0
  · have hw := hw0 c_35
    refine j_tin (v := 0) (tgt := 80) X g_34 c_35 dX12_count_8 (by decide) (by decide) rfl (by decide) ?_
    refine lv_aload_n X.1 X.2.1 dX12_count_80 rfl (lv_at hl 1 rfl) ?_
    refine r_get (ci := 12) X inw_12 h (hF.1 12 rfl).1 rfl rfl 1 (by decide) kw_1639 rfl dX12_count_81 ?_
    exact k_ir X rfl h hw dX12_count_84
  by_cases c_36 : x1 = 1
  · have hw := hw1 c_36
    refine j_tin (v := 1) (tgt := 85) X g_34 c_36 dX12_count_8 (by decide) (by decide) rfl (by decide) ?_
    refine lv_aload_n X.1 X.2.1 dX12_count_85 rfl (lv_at hl 1 rfl) ?_
    refine r_get (ci := 12) X inw_12 h (hF.1 12 rfl).1 rfl rfl 17 (by decide) kw_1655 rfl dX12_count_86 ?_
    exact k_ir X rfl h hw dX12_count_89
  by_cases c_37 : x1 = 2
  · have hw := hw2 c_37
    refine j_tin (v := 2) (tgt := 90) X g_34 c_37 dX12_count_8 (by decide) (by decide) rfl (by decide) ?_
    refine lv_aload_n X.1 X.2.1 dX12_count_90 rfl (lv_at hl 1 rfl) ?_
    refine r_get (ci := 12) X inw_12 h (hF.1 12 rfl).1 rfl rfl 53 (by decide) kw_1691 rfl dX12_count_91 ?_
    exact k_ir X rfl h hw dX12_count_94
  by_cases c_38 : x1 = 3
  · have hw := hw3 c_38
    refine j_tin (v := 3) (tgt := 95) X g_34 c_38 dX12_count_8 (by decide) (by decide) rfl (by decide) ?_
    refine lv_aload_n X.1 X.2.1 dX12_count_95 rfl (lv_at hl 1 rfl) ?_
    refine r_get (ci := 12) X inw_12 h (hF.1 12 rfl).1 rfl rfl 59 (by decide) kw_1697 rfl dX12_count_96 ?_
    exact k_ir X rfl h hw dX12_count_99
  by_cases c_39 : x1 = 4
  · have hw := hw4 c_39
    refine j_tin (v := 4) (tgt := 100) X g_34 c_39 dX12_count_8 (by decide) (by decide) rfl (by decide) ?_
    refine j_iconst X dX12_count_100 ?_
    refine lv_istore_n (lv' := [(3, .int (iv 0)), (2, .int (iv 0)), (0, .ref (ad 12 0)), (1, .int (iv x1))]) X.1 X.2.1 dX12_count_101 rfl hl (by decide) rfl (fun ls hl => ?_)
    exact hw.elim (fun n102 hw => lb_X12_count_102 X n102 σ_33 0 0 _ _ _ hw h (lv_sub hl [2, 1, 0] rfl))
  by_cases c_40 : x1 = 5
  · have hw := hw5 c_40
    refine j_tin (v := 5) (tgt := 136) X g_34 c_40 dX12_count_8 (by decide) (by decide) rfl (by decide) ?_
    refine lv_aload_n X.1 X.2.1 dX12_count_136 rfl (lv_at hl 1 rfl) ?_
    refine r_get (ci := 12) X inw_12 h (hF.1 12 rfl).1 rfl rfl 33 (by decide) kw_1671 rfl dX12_count_137 ?_
    exact k_ir X rfl h hw dX12_count_140
  by_cases c_41 : x1 = 6
  · have hw := hw6 c_41
    refine j_tin (v := 6) (tgt := 141) X g_34 c_41 dX12_count_8 (by decide) (by decide) rfl (by decide) ?_
    refine lv_aload_n X.1 X.2.1 dX12_count_141 rfl (lv_at hl 1 rfl) ?_
    refine r_get (ci := 12) X inw_12 h (hF.1 12 rfl).1 rfl rfl 60 (by decide) kw_1698 rfl dX12_count_142 ?_
    exact k_ir X rfl h hw dX12_count_145
  by_cases c_42 : x1 = 7
  · have hw := hw7 c_42
    refine j_tin (v := 7) (tgt := 146) X g_34 c_42 dX12_count_8 (by decide) (by decide) rfl (by decide) ?_
    refine lv_aload_n X.1 X.2.1 dX12_count_146 rfl (lv_at hl 1 rfl) ?_
    refine r_get (ci := 12) X inw_12 h (hF.1 12 rfl).1 rfl rfl 71 (by decide) kw_1709 rfl dX12_count_147 ?_
    exact k_ir X rfl h hw dX12_count_150
  by_cases c_43 : x1 = 8
  · have hw := hw8 c_43
    refine j_tin (v := 8) (tgt := 151) X g_34 c_43 dX12_count_8 (by decide) (by decide) rfl (by decide) ?_
    refine lv_aload_n X.1 X.2.1 dX12_count_151 rfl (lv_at hl 1 rfl) ?_
    refine r_get (ci := 12) X inw_12 h (hF.1 12 rfl).1 rfl rfl 78 (by decide) kw_1716 rfl dX12_count_152 ?_
    exact k_ir X rfl h hw dX12_count_155
  by_cases c_44 : x1 = 9
  · have hw := hw9 c_44
    refine j_tin (v := 9) (tgt := 156) X g_34 c_44 dX12_count_8 (by decide) (by decide) rfl (by decide) ?_
    refine lv_aload_n X.1 X.2.1 dX12_count_156 rfl (lv_at hl 1 rfl) ?_
    refine r_get (ci := 12) X inw_12 h (hF.1 12 rfl).1 rfl rfl 44 (by decide) kw_1682 rfl dX12_count_157 ?_
    exact k_ir X rfl h hw dX12_count_160
  by_cases c_45 : x1 = 10
  · have hw := hw10 c_45
    refine j_tin (v := 10) (tgt := 161) X g_34 c_45 dX12_count_8 (by decide) (by decide) rfl (by decide) ?_
    refine lv_aload_n X.1 X.2.1 dX12_count_161 rfl (lv_at hl 1 rfl) ?_
    refine r_get (ci := 12) X inw_12 h (hF.1 12 rfl).1 rfl rfl 67 (by decide) kw_1705 rfl dX12_count_162 ?_
    exact k_ir X rfl h hw dX12_count_165
  by_cases c_46 : x1 = 11
  · have hw := hw11 c_46
    refine j_tin (v := 11) (tgt := 166) X g_34 c_46 dX12_count_8 (by decide) (by decide) rfl (by decide) ?_
    refine lv_aload_n X.1 X.2.1 dX12_count_166 rfl (lv_at hl 1 rfl) ?_
    refine r_get (ci := 12) X inw_12 h (hF.1 12 rfl).1 rfl rfl 82 (by decide) kw_1720 rfl dX12_count_167 ?_
    exact k_ir X rfl h hw dX12_count_170
  by_cases c_47 : x1 = 12
  · have hw := hw12 c_47
    refine j_tin (v := 12) (tgt := 171) X g_34 c_47 dX12_count_8 (by decide) (by decide) rfl (by decide) ?_
    refine j_iconst X dX12_count_171 ?_
    refine lv_istore_n (lv' := [(3, .int (iv 0)), (2, .int (iv 0)), (0, .ref (ad 12 0)), (1, .int (iv x1))]) X.1 X.2.1 dX12_count_172 rfl hl (by decide) rfl (fun ls hl => ?_)
    exact hw.elim (fun n173 hw => lb_X12_count_173 X n173 σ_33 0 0 _ _ _ hw h (lv_sub hl [2, 1, 0] rfl))
  by_cases c_48 : x1 = 13
  · have hw := hw13 c_48
    refine j_tin (v := 13) (tgt := 198) X g_34 c_48 dX12_count_8 (by decide) (by decide) rfl (by decide) ?_
    refine j_iconst X dX12_count_198 ?_
    refine lv_istore_n (lv' := [(3, .int (iv 0)), (2, .int (iv 0)), (0, .ref (ad 12 0)), (1, .int (iv x1))]) X.1 X.2.1 dX12_count_199 rfl hl (by decide) rfl (fun ls hl => ?_)
    exact hw.elim (fun n200 hw => lb_X12_count_200 X n200 σ_33 0 0 _ _ _ hw h (lv_sub hl [2, 1, 0] rfl))
  have c_49 : x1 < 0 ∨ 13 < x1 := by omega
  have hw := hw14 c_49
  refine j_tout (tgt := 224) X g_34 c_49 dX12_count_8 (by decide) ?_
  refine j_iconst X dX12_count_224 ?_
  refine lv_istore_n (lv' := [(3, .int (iv 0)), (2, .int (iv 0)), (0, .ref (ad 12 0)), (1, .int (iv x1))]) X.1 X.2.1 dX12_count_225 rfl hl (by decide) rfl (fun ls hl => ?_)
  exact hw.elim (fun n226 hw => lb_X12_count_226 X (lb_X12_count_261 X) n226 σ_33 x1 0 0 _ _ _ hw h (lv_sub hl [2, 3, 1, 0] rfl))
end
