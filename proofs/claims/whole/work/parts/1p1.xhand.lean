/-! the three methods that throw: hand, each, orderOf -/
section
variable {p : Program} {l : Launch} {e : Env} {s : State} {m : MethodId} {args : Array Value} {below : List Frame} {meth : Method} {c : Code} {D : va_G} {ct : Nat → ClassId} {ad : Nat → Nat → Nat} {L : List (Nat × Nat)} {φ : Nat → Nat → Nat → Bool} {N0 : Nat} {Q : Int → St → Prop} {Qx : St → Prop}
set_option maxRecDepth 100000 in
set_option maxHeartbeats 4000000 in
theorem lb_X11_hand_107 (X : Cx p s m meth c args cX11_hand 9 (some .int) RX11 D ct L φ N0) (Y : Yx l c N0 s) (σ : St) (H : Heap) (locs : List Loc) (ls : Array Slot) (hw : wp_X11_hand_107 Q Qx σ) (h : Hs D ct ad L φ N0 s.heap σ H locs) (hl : lv_has ls 9 []) : W p l e ({ frames := 6, cells := 1, slots := 6, locals := 81 } : Room) s m args below meth c H locs 0 0 (vx_MQ below (Qi D ct ad L φ N0 Q) (Xq D ct ad L φ N0 Qx) args s 1 6 (AA N0)) (F0 m 107 ls []) := by
  have hF := X.2.2.2.2.2.2.2.2.1
  unfold wp_X11_hand_107 at hw
  exact r_throw X Y hl.1 h hw dX11_hand_107 dX11_hand_110 dX11_hand_111 dX11_hand_114
set_option maxRecDepth 100000 in
set_option maxHeartbeats 4000000 in
theorem lb_X11_hand_94 (X : Cx p s m meth c args cX11_hand 9 (some .int) RX11 D ct L φ N0) (Y : Yx l c N0 s) (σ : St) (x2 : Int) (x3 : Int) (x4 : Int) (x5 : Int) (x6 : Int) (H : Heap) (locs : List Loc) (ls : Array Slot) (hw : wp_X11_hand_94 Q Qx σ x2 x3 x4 x5 x6) (h : Hs D ct ad L φ N0 s.heap σ H locs) (hl : lv_has ls 9 [(2, .int (iv x2)), (3, .int (iv x3)), (4, .int (iv x4)), (5, .int (iv x5)), (6, .int (iv x6))]) : W p l e ({ frames := 6, cells := 1, slots := 6, locals := 81 } : Room) s m args below meth c H locs 0 0 (vx_MQ below (Qi D ct ad L φ N0 Q) (Xq D ct ad L φ N0 Qx) args s 1 6 (AA N0)) (F0 m 94 ls []) := by
  have hF := X.2.2.2.2.2.2.2.2.1
  unfold wp_X11_hand_94 at hw
  refine lv_iload_n X.1 X.2.1 dX11_hand_94 rfl (lv_at hl 1 rfl) ?_
  obtain ⟨g_1, hwt, hwf⟩ := hw
  refine j_if_eq (tgt := 107) X g_1 dX11_hand_95 (by decide) (fun c_10 => ?_) (fun c_10 => ?_)
  · have hw := hwt c_10
    exact lb_X11_hand_107 X Y σ _ _ _ hw h (lv_sub hl [] rfl)
  · have hw := hwf c_10
    refine lv_iload_n X.1 X.2.1 dX11_hand_98 rfl (lv_at hl 0 rfl) ?_
    refine j_iconst X dX11_hand_99 ?_
    refine j_iconst X dX11_hand_100 ?_
    refine k_i h (r_S (As := [.int (iv x2), .int (iv 0), .int (iv 1)]) (rest := []) X h (c_X11_within l D ct ad L φ N0 σ x2 0 1 _ hw) rfl rfl ⟨Nat.le_of_ble_eq_true rfl, Nat.le_of_ble_eq_true rfl⟩ kw_526 kw_527 kw_120 kw_528 pd_X11_within rfl hl.1 rfl (Nat.le_of_ble_eq_true rfl) ⟨Nat.le_of_ble_eq_true rfl, Nat.le_of_ble_eq_true rfl⟩ dX11_hand_101) (fun r_3 σ_2 H locs hw h => ?_)
    obtain ⟨g_4, hwt, hwf⟩ := hw
    refine j_if_ne (tgt := 115) X g_4 dX11_hand_104 (by decide) (fun c_9 => ?_) (fun c_9 => ?_)
    · have hw := hwt c_9
      refine lv_iload_n X.1 X.2.1 dX11_hand_115 rfl (lv_at hl 0 rfl) ?_
      obtain ⟨g_5, hwt, hwf⟩ := hw
      refine j_if_ne (tgt := 128) X g_5 dX11_hand_116 (by decide) (fun c_8 => ?_) (fun c_8 => ?_)
      · have hw := hwt c_8
        refine lv_iload X.1 X.2.1 dX11_hand_128 (lv_at hl 4 rfl) ?_
        refine lv_iload X.1 X.2.1 dX11_hand_130 (lv_at hl 3 rfl) ?_
        refine j_isub X dX11_hand_132 ?_
        exact vx_ret (W.widen (k := 1) (n := 6) (by decide) (by decide) (k_ir X rfl h hw dX11_hand_133))
      · have hw := hwf c_8
        refine lv_iload X.1 X.2.1 dX11_hand_119 (lv_at hl 2 rfl) ?_
        refine lv_iload_n X.1 X.2.1 dX11_hand_121 rfl (lv_at hl 1 rfl) ?_
        refine k_i h (r_S (As := [.int (iv x4), .int (iv x3)]) (rest := []) X h (c_J9_floorDiv_7cf53 l D ct ad L φ N0 σ_2 x4 x3 _ hw) rfl rfl ⟨Nat.le_of_ble_eq_true rfl, Nat.le_of_ble_eq_true rfl⟩ kw_1614 kw_1615 kw_130 kw_1616 pd_J9_floorDiv_7cf53 rfl hl.1 rfl (Nat.le_of_ble_eq_true rfl) ⟨Nat.le_of_ble_eq_true rfl, Nat.le_of_ble_eq_true rfl⟩ dX11_hand_122) (fun r_7 σ_6 H locs hw h => ?_)
        refine lv_goto (tgt := 133) X.1 X.2.1 dX11_hand_125 (by decide) ?_
        exact vx_ret (W.widen (k := 1) (n := 6) (by decide) (by decide) (k_ir X rfl h hw dX11_hand_133))
    · have hw := hwf c_9
      exact lb_X11_hand_107 X Y σ_2 _ _ _ hw h (lv_sub hl [] rfl)
set_option maxRecDepth 100000 in
set_option maxHeartbeats 4000000 in
theorem lb_X11_hand_88 (X : Cx p s m meth c args cX11_hand 9 (some .int) RX11 D ct L φ N0) (Y : Yx l c N0 s) {K14 : St → Int → Int → Int → Int → Int → Int → Int → Prop} {K94 : St → Int → Int → Int → Int → Int → Prop} (hK14 : ∀ (σ : St) (x1 : Int) (x2 : Int) (x3 : Int) (x4 : Int) (x5 : Int) (x6 : Int) (x7 : Int) (H : Heap) (locs : List Loc) (ls : Array Slot), K14 σ x1 x2 x3 x4 x5 x6 x7 → Hs D ct ad L φ N0 s.heap σ H locs → lv_has ls 9 [(0, .ref (ad 11 0)), (1, .int (iv x1)), (2, .int (iv x2)), (3, .int (iv x3)), (4, .int (iv x4)), (5, .int (iv x5)), (6, .int (iv x6)), (7, .int (iv x7))] → W p l e ({ frames := 6, cells := 1, slots := 6, locals := 81 } : Room) s m args below meth c H locs 0 0 (vx_MQ below (Qi D ct ad L φ N0 Q) (Xq D ct ad L φ N0 Qx) args s 1 6 (AA N0)) (F0 m 14 ls [])) (hK94 : ∀ (σ : St) (x2 : Int) (x3 : Int) (x4 : Int) (x5 : Int) (x6 : Int) (H : Heap) (locs : List Loc) (ls : Array Slot), K94 σ x2 x3 x4 x5 x6 → Hs D ct ad L φ N0 s.heap σ H locs → lv_has ls 9 [(2, .int (iv x2)), (3, .int (iv x3)), (4, .int (iv x4)), (5, .int (iv x5)), (6, .int (iv x6))] → W p l e ({ frames := 6, cells := 1, slots := 6, locals := 81 } : Room) s m args below meth c H locs 0 0 (vx_MQ below (Qi D ct ad L φ N0 Q) (Xq D ct ad L φ N0 Qx) args s 1 6 (AA N0)) (F0 m 94 ls [])) (σ : St) (x1 : Int) (x2 : Int) (x3 : Int) (x4 : Int) (x5 : Int) (x6 : Int) (x7 : Int) (H : Heap) (locs : List Loc) (ls : Array Slot) (hw : wp_X11_hand_88 K14 K94 Q Qx σ x1 x2 x3 x4 x5 x6 x7) (h : Hs D ct ad L φ N0 s.heap σ H locs) (hl : lv_has ls 9 [(0, .ref (ad 11 0)), (1, .int (iv x1)), (2, .int (iv x2)), (3, .int (iv x3)), (4, .int (iv x4)), (5, .int (iv x5)), (6, .int (iv x6)), (7, .int (iv x7))]) : W p l e ({ frames := 6, cells := 1, slots := 6, locals := 81 } : Room) s m args below meth c H locs 0 0 (vx_MQ below (Qi D ct ad L φ N0 Q) (Xq D ct ad L φ N0 Qx) args s 1 6 (AA N0)) (F0 m 88 ls []) := by
  have hF := X.2.2.2.2.2.2.2.2.1
  unfold wp_X11_hand_88 at hw
  refine j_iinc (kk9 := 7) (lv' := [(7, .int (iv (x7 + 1))), (0, .ref (ad 11 0)), (1, .int (iv x1)), (2, .int (iv x2)), (3, .int (iv x3)), (4, .int (iv x4)), (5, .int (iv x5)), (6, .int (iv x6))]) X dX11_hand_88 hl rfl (by decide) rfl (fun ls hl => ?_)
  refine lv_goto (tgt := 14) X.1 X.2.1 dX11_hand_91 (by decide) ?_
  exact hK14 σ x1 x2 x3 x4 x5 x6 (x7 + 1) _ _ _ hw h (lv_sub hl [1, 2, 3, 4, 5, 6, 7, 0] rfl)
set_option maxRecDepth 100000 in
set_option maxHeartbeats 4000000 in
theorem lb_X11_hand_76 (X : Cx p s m meth c args cX11_hand 9 (some .int) RX11 D ct L φ N0) (Y : Yx l c N0 s) {K14 : St → Int → Int → Int → Int → Int → Int → Int → Prop} {K94 : St → Int → Int → Int → Int → Int → Prop} (hK14 : ∀ (σ : St) (x1 : Int) (x2 : Int) (x3 : Int) (x4 : Int) (x5 : Int) (x6 : Int) (x7 : Int) (H : Heap) (locs : List Loc) (ls : Array Slot), K14 σ x1 x2 x3 x4 x5 x6 x7 → Hs D ct ad L φ N0 s.heap σ H locs → lv_has ls 9 [(0, .ref (ad 11 0)), (1, .int (iv x1)), (2, .int (iv x2)), (3, .int (iv x3)), (4, .int (iv x4)), (5, .int (iv x5)), (6, .int (iv x6)), (7, .int (iv x7))] → W p l e ({ frames := 6, cells := 1, slots := 6, locals := 81 } : Room) s m args below meth c H locs 0 0 (vx_MQ below (Qi D ct ad L φ N0 Q) (Xq D ct ad L φ N0 Qx) args s 1 6 (AA N0)) (F0 m 14 ls [])) (hK94 : ∀ (σ : St) (x2 : Int) (x3 : Int) (x4 : Int) (x5 : Int) (x6 : Int) (H : Heap) (locs : List Loc) (ls : Array Slot), K94 σ x2 x3 x4 x5 x6 → Hs D ct ad L φ N0 s.heap σ H locs → lv_has ls 9 [(2, .int (iv x2)), (3, .int (iv x3)), (4, .int (iv x4)), (5, .int (iv x5)), (6, .int (iv x6))] → W p l e ({ frames := 6, cells := 1, slots := 6, locals := 81 } : Room) s m args below meth c H locs 0 0 (vx_MQ below (Qi D ct ad L φ N0 Q) (Xq D ct ad L φ N0 Qx) args s 1 6 (AA N0)) (F0 m 94 ls [])) (σ : St) (x1 : Int) (x2 : Int) (x3 : Int) (x4 : Int) (x5 : Int) (x7 : Int) (x8 : Int) (y0 : Int) (H : Heap) (locs : List Loc) (ls : Array Slot) (hw : wp_X11_hand_76 K14 K94 Q Qx σ x1 x2 x3 x4 x5 x7 x8 y0) (h : Hs D ct ad L φ N0 s.heap σ H locs) (hl : lv_has ls 9 [(0, .ref (ad 11 0)), (1, .int (iv x1)), (2, .int (iv x2)), (3, .int (iv x3)), (4, .int (iv x4)), (5, .int (iv x5)), (7, .int (iv x7)), (8, .int (iv x8))]) : W p l e ({ frames := 6, cells := 1, slots := 6, locals := 81 } : Room) s m args below meth c H locs 0 0 (vx_MQ below (Qi D ct ad L φ N0 Q) (Xq D ct ad L φ N0 Qx) args s 1 6 (AA N0)) (F0 m 76 ls [.int (iv y0)]) := by
  have hF := X.2.2.2.2.2.2.2.2.1
  unfold wp_X11_hand_76 at hw
  refine lv_istore (lv' := [(6, .int (iv y0)), (0, .ref (ad 11 0)), (1, .int (iv x1)), (2, .int (iv x2)), (3, .int (iv x3)), (4, .int (iv x4)), (5, .int (iv x5)), (7, .int (iv x7)), (8, .int (iv x8))]) X.1 X.2.1 dX11_hand_76 hl (by decide) rfl (fun ls hl => ?_)
  refine lv_iload X.1 X.2.1 dX11_hand_78 (lv_at hl 5 rfl) ?_
  refine lv_iload X.1 X.2.1 dX11_hand_80 (lv_at hl 8 rfl) ?_
  refine j_iadd X dX11_hand_82 ?_
  refine j_bind (fun v_11 ev_11 => ?_)
  have hw := hw v_11 ev_11
  refine lv_istore (lv' := [(4, .int (iv v_11)), (6, .int (iv y0)), (0, .ref (ad 11 0)), (1, .int (iv x1)), (2, .int (iv x2)), (3, .int (iv x3)), (5, .int (iv x5)), (7, .int (iv x7)), (8, .int (iv x8))]) X.1 X.2.1 dX11_hand_83 hl (by decide) rfl (fun ls hl => ?_)
  refine j_iinc (kk9 := 5) (lv' := [(3, .int (iv (x3 + 1))), (4, .int (iv v_11)), (6, .int (iv y0)), (0, .ref (ad 11 0)), (1, .int (iv x1)), (2, .int (iv x2)), (5, .int (iv x5)), (7, .int (iv x7)), (8, .int (iv x8))]) X dX11_hand_85 hl rfl (by decide) rfl (fun ls hl => ?_)
  exact lb_X11_hand_88 X Y hK14 hK94 σ x1 x2 (x3 + 1) v_11 x5 y0 x7 _ _ _ hw h (lv_sub hl [3, 4, 5, 0, 1, 6, 2, 7] rfl)
set_option maxRecDepth 100000 in
set_option maxHeartbeats 4000000 in
theorem lb_X11_hand_58 (X : Cx p s m meth c args cX11_hand 9 (some .int) RX11 D ct L φ N0) (Y : Yx l c N0 s) {K14 : St → Int → Int → Int → Int → Int → Int → Int → Prop} {K94 : St → Int → Int → Int → Int → Int → Prop} (hK14 : ∀ (σ : St) (x1 : Int) (x2 : Int) (x3 : Int) (x4 : Int) (x5 : Int) (x6 : Int) (x7 : Int) (H : Heap) (locs : List Loc) (ls : Array Slot), K14 σ x1 x2 x3 x4 x5 x6 x7 → Hs D ct ad L φ N0 s.heap σ H locs → lv_has ls 9 [(0, .ref (ad 11 0)), (1, .int (iv x1)), (2, .int (iv x2)), (3, .int (iv x3)), (4, .int (iv x4)), (5, .int (iv x5)), (6, .int (iv x6)), (7, .int (iv x7))] → W p l e ({ frames := 6, cells := 1, slots := 6, locals := 81 } : Room) s m args below meth c H locs 0 0 (vx_MQ below (Qi D ct ad L φ N0 Q) (Xq D ct ad L φ N0 Qx) args s 1 6 (AA N0)) (F0 m 14 ls [])) (hK94 : ∀ (σ : St) (x2 : Int) (x3 : Int) (x4 : Int) (x5 : Int) (x6 : Int) (H : Heap) (locs : List Loc) (ls : Array Slot), K94 σ x2 x3 x4 x5 x6 → Hs D ct ad L φ N0 s.heap σ H locs → lv_has ls 9 [(2, .int (iv x2)), (3, .int (iv x3)), (4, .int (iv x4)), (5, .int (iv x5)), (6, .int (iv x6))] → W p l e ({ frames := 6, cells := 1, slots := 6, locals := 81 } : Room) s m args below meth c H locs 0 0 (vx_MQ below (Qi D ct ad L φ N0 Q) (Xq D ct ad L φ N0 Qx) args s 1 6 (AA N0)) (F0 m 94 ls [])) (σ : St) (x1 : Int) (x2 : Int) (x3 : Int) (x4 : Int) (x6 : Int) (x7 : Int) (x8 : Int) (y0 : Int) (H : Heap) (locs : List Loc) (ls : Array Slot) (hw : wp_X11_hand_58 K14 K94 Q Qx σ x1 x2 x3 x4 x6 x7 x8 y0) (h : Hs D ct ad L φ N0 s.heap σ H locs) (hl : lv_has ls 9 [(0, .ref (ad 11 0)), (1, .int (iv x1)), (2, .int (iv x2)), (3, .int (iv x3)), (4, .int (iv x4)), (6, .int (iv x6)), (7, .int (iv x7)), (8, .int (iv x8))]) : W p l e ({ frames := 6, cells := 1, slots := 6, locals := 81 } : Room) s m args below meth c H locs 0 0 (vx_MQ below (Qi D ct ad L φ N0 Q) (Xq D ct ad L φ N0 Qx) args s 1 6 (AA N0)) (F0 m 58 ls [.int (iv y0)]) := by
  have hF := X.2.2.2.2.2.2.2.2.1
  unfold wp_X11_hand_58 at hw
  refine lv_istore (lv' := [(5, .int (iv y0)), (0, .ref (ad 11 0)), (1, .int (iv x1)), (2, .int (iv x2)), (3, .int (iv x3)), (4, .int (iv x4)), (6, .int (iv x6)), (7, .int (iv x7)), (8, .int (iv x8))]) X.1 X.2.1 dX11_hand_58 hl (by decide) rfl (fun ls hl => ?_)
  refine lv_iload_n X.1 X.2.1 dX11_hand_60 rfl (lv_at hl 4 rfl) ?_
  obtain ⟨g_12, hwt, hwf⟩ := hw
  refine j_if_ne (tgt := 69) X g_12 dX11_hand_61 (by decide) (fun c_15 => ?_) (fun c_15 => ?_)
  · have hw := hwt c_15
    refine lv_iload X.1 X.2.1 dX11_hand_69 (lv_at hl 6 rfl) ?_
    refine lv_iload X.1 X.2.1 dX11_hand_71 (lv_at hl 8 rfl) ?_
    refine k_i h (r_S (As := [.int (iv x6), .int (iv x8)]) (rest := []) X h (c_J9_max_7cf53 l D ct ad L φ N0 σ x6 x8 _ hw) rfl rfl ⟨Nat.le_of_ble_eq_true rfl, Nat.le_of_ble_eq_true rfl⟩ kw_1552 kw_619 kw_130 kw_620 pd_J9_max_7cf53 rfl hl.1 rfl (Nat.le_of_ble_eq_true rfl) ⟨Nat.le_of_ble_eq_true rfl, Nat.le_of_ble_eq_true rfl⟩ dX11_hand_73) (fun r_14 σ_13 H locs hw h => ?_)
    exact lb_X11_hand_76 X Y hK14 hK94 σ_13 x1 x2 x3 x4 y0 x7 x8 r_14 _ _ _ hw h (lv_sub hl [1, 2, 3, 4, 5, 0, 7, 8] rfl)
  · have hw := hwf c_15
    refine lv_iload X.1 X.2.1 dX11_hand_64 (lv_at hl 8 rfl) ?_
    refine lv_goto (tgt := 76) X.1 X.2.1 dX11_hand_66 (by decide) ?_
    exact lb_X11_hand_76 X Y hK14 hK94 σ x1 x2 x3 x4 y0 x7 x8 x8 _ _ _ hw h (lv_sub hl [1, 2, 3, 4, 5, 0, 7, 8] rfl)
set_option maxRecDepth 100000 in
set_option maxHeartbeats 4000000 in
theorem lb_X11_hand_14 (X : Cx p s m meth c args cX11_hand 9 (some .int) RX11 D ct L φ N0) (Y : Yx l c N0 s) {K94 : St → Int → Int → Int → Int → Int → Prop} (hK94 : ∀ (σ : St) (x2 : Int) (x3 : Int) (x4 : Int) (x5 : Int) (x6 : Int) (H : Heap) (locs : List Loc) (ls : Array Slot), K94 σ x2 x3 x4 x5 x6 → Hs D ct ad L φ N0 s.heap σ H locs → lv_has ls 9 [(2, .int (iv x2)), (3, .int (iv x3)), (4, .int (iv x4)), (5, .int (iv x5)), (6, .int (iv x6))] → W p l e ({ frames := 6, cells := 1, slots := 6, locals := 81 } : Room) s m args below meth c H locs 0 0 (vx_MQ below (Qi D ct ad L φ N0 Q) (Xq D ct ad L φ N0 Qx) args s 1 6 (AA N0)) (F0 m 94 ls [])) : ∀ (n : Nat) (σ : St) (x1 : Int) (x2 : Int) (x3 : Int) (x4 : Int) (x5 : Int) (x6 : Int) (x7 : Int) (H : Heap) (locs : List Loc) (ls : Array Slot), wp_X11_hand_14 K94 Q Qx n σ x1 x2 x3 x4 x5 x6 x7 → Hs D ct ad L φ N0 s.heap σ H locs → lv_has ls 9 [(0, .ref (ad 11 0)), (1, .int (iv x1)), (2, .int (iv x2)), (3, .int (iv x3)), (4, .int (iv x4)), (5, .int (iv x5)), (6, .int (iv x6)), (7, .int (iv x7))] → W p l e ({ frames := 6, cells := 1, slots := 6, locals := 81 } : Room) s m args below meth c H locs 0 0 (vx_MQ below (Qi D ct ad L φ N0 Q) (Xq D ct ad L φ N0 Qx) args s 1 6 (AA N0)) (F0 m 14 ls []) := by
  have hF := X.2.2.2.2.2.2.2.2.1
  intro n
  induction n with
  | zero => intro σ x1 x2 x3 x4 x5 x6 x7 H locs ls hw; exact hw.elim
  | succ n ih =>
    intro σ x1 x2 x3 x4 x5 x6 x7 H locs ls hw h hl
    unfold wp_X11_hand_14 at hw
    refine lv_iload X.1 X.2.1 dX11_hand_14 (lv_at hl 7 rfl) ?_
    refine lv_aload_n X.1 X.2.1 dX11_hand_16 rfl (lv_at hl 0 rfl) ?_
    refine r_get (ci := 11) X inw_11 h (hF.1 11 rfl).1 rfl rfl 16 (by decide) kw_474 rfl dX11_hand_17 ?_
    obtain ⟨g_16, g_17, hwt, hwf⟩ := hw
    refine j_cmp_ge (tgt := 94) X g_16 g_17 dX11_hand_20 (by decide) (fun c_29 => ?_) (fun c_29 => ?_)
    · have hw := hwt c_29
      exact hK94 σ x2 x3 x4 x5 x6 _ _ _ hw h (lv_sub hl [2, 3, 4, 5, 6] rfl)
    · have hw := hwf c_29
      refine lv_aload_n X.1 X.2.1 dX11_hand_23 rfl (lv_at hl 0 rfl) ?_
      refine r_getR (ci := 11) X inw_11 h (hF.1 11 rfl).1 rfl rfl 13 (by decide) kw_471 rfl ((hF.1 11 rfl).2 13) dX11_hand_24 ?_
      refine lv_iload X.1 X.2.1 dX11_hand_27 (lv_at hl 7 rfl) ?_
      obtain ⟨g_18, g_19, hw⟩ := hw
      refine r_iald (n := 60) X h (hF.1 80 rfl).1 rfl (by decide) g_18 g_19 dX11_hand_29 ?_
      refine lv_iload_n X.1 X.2.1 dX11_hand_30 rfl (lv_at hl 1 rfl) ?_
      obtain ⟨g_20, g_21, hwt, hwf⟩ := hw
      refine j_cmp_ne (tgt := 88) X g_20 g_21 dX11_hand_31 (by decide) (fun c_28 => ?_) (fun c_28 => ?_)
      · have hw := hwt c_28
        exact lb_X11_hand_88 X Y ih hK94 σ x1 x2 x3 x4 x5 x6 x7 _ _ _ hw h (lv_sub hl [0, 1, 2, 3, 4, 5, 6, 7] rfl)
      · have hw := hwf c_28
        refine lv_aload_n X.1 X.2.1 dX11_hand_34 rfl (lv_at hl 0 rfl) ?_
        refine lv_iload X.1 X.2.1 dX11_hand_35 (lv_at hl 7 rfl) ?_
        refine k_i h (r_V (C := RX11) (ci := 11) (As := [.int (iv x7)]) (rest := []) X h (c_X11_doubleDifference l D ct ad L φ N0 σ x7 _ hw) rfl rfl ⟨Nat.le_of_ble_eq_true rfl, Nat.le_of_ble_eq_true rfl⟩ kw_1547 kw_1549 kw_63 kw_120 kw_1550 ⟨rfl, pd_X11_doubleDifference⟩ (hF.1 11 rfl).1 rfl rfl rfl hl.1 rfl (Nat.le_of_ble_eq_true rfl) ⟨Nat.le_of_ble_eq_true rfl, Nat.le_of_ble_eq_true rfl⟩ dX11_hand_37) (fun r_23 σ_22 H locs hw h => ?_)
        refine lv_istore (lv' := [(8, .int (iv r_23)), (0, .ref (ad 11 0)), (1, .int (iv x1)), (2, .int (iv x2)), (3, .int (iv x3)), (4, .int (iv x4)), (5, .int (iv x5)), (6, .int (iv x6)), (7, .int (iv x7))]) X.1 X.2.1 dX11_hand_40 hl (by decide) rfl (fun ls hl => ?_)
        refine lv_iload_n X.1 X.2.1 dX11_hand_42 rfl (lv_at hl 4 rfl) ?_
        obtain ⟨g_24, hwt, hwf⟩ := hw
        refine j_if_ne (tgt := 51) X g_24 dX11_hand_43 (by decide) (fun c_27 => ?_) (fun c_27 => ?_)
        · have hw := hwt c_27
          refine lv_iload X.1 X.2.1 dX11_hand_51 (lv_at hl 6 rfl) ?_
          refine lv_iload X.1 X.2.1 dX11_hand_53 (lv_at hl 0 rfl) ?_
          refine k_i h (r_S (As := [.int (iv x5), .int (iv r_23)]) (rest := []) X h (c_J9_min_7cf53 l D ct ad L φ N0 σ_22 x5 r_23 _ hw) rfl rfl ⟨Nat.le_of_ble_eq_true rfl, Nat.le_of_ble_eq_true rfl⟩ kw_1551 kw_918 kw_130 kw_919 pd_J9_min_7cf53 rfl hl.1 rfl (Nat.le_of_ble_eq_true rfl) ⟨Nat.le_of_ble_eq_true rfl, Nat.le_of_ble_eq_true rfl⟩ dX11_hand_55) (fun r_26 σ_25 H locs hw h => ?_)
          exact lb_X11_hand_58 X Y ih hK94 σ_25 x1 x2 x3 x4 x6 x7 r_23 r_26 _ _ _ hw h (lv_sub hl [1, 2, 3, 4, 5, 7, 8, 0] rfl)
        · have hw := hwf c_27
          refine lv_iload X.1 X.2.1 dX11_hand_46 (lv_at hl 0 rfl) ?_
          refine lv_goto (tgt := 58) X.1 X.2.1 dX11_hand_48 (by decide) ?_
          exact lb_X11_hand_58 X Y ih hK94 σ_22 x1 x2 x3 x4 x6 x7 r_23 r_23 _ _ _ hw h (lv_sub hl [1, 2, 3, 4, 5, 7, 8, 0] rfl)
theorem pd_X11_hand : yX11_hand.cls ≠ "java/lang/invoke/MethodHandle" ∧ yX11_hand.cls ≠ "java/lang/invoke/VarHandle" ∧ (parseMethodDescriptor yX11_hand.desc).map (fun d => d.parameters.length) = some 2 := by decide +kernel
set_option maxRecDepth 100000 in
set_option maxHeartbeats 4000000 in
theorem c_X11_hand (l : Launch) (hl0 : l.stackTraces = false) (D : va_G) (ct : Nat → ClassId) (ad : Nat → Nat → Nat) (L : List (Nat × Nat)) (φ : Nat → Nat → Nat → Bool) (N0 : Nat) (σ : St) (x1 : Int) (x2 : Int) (Q : Int → St → Prop) (Qx : St → Prop) (hw : wp_X11_hand σ x1 x2 Q Qx) : vx_Met l yX11_hand (.code yX11_hand cX11_hand 9 (some .int) :: gw) ({ frames := 6, cells := 1, slots := 6, locals := 81 } : Room) (Pmx D ct ad L φ N0 σ [.ref (ad 11 0), .int (iv x1), .int (iv x2)]) (Qi D ct ad L φ N0 Q) (Xq D ct ad L φ N0 Qx) 1 6 (AA N0) := by
  refine m_ofX (by decide) hl0 (fun p e s m below meth c X Y h => ?_)
  have hF := X.2.2.2.2.2.2.2.2.1
  have hl := lv_entry ([.ref (ad 11 0), .int (iv x1), .int (iv x2)]) (n := 9) (Nat.le_of_ble_eq_true rfl)
  rw [lg_entry_eq]
  generalize (lg_sl ([.ref (ad 11 0), .int (iv x1), .int (iv x2)]) ++ List.replicate (9 - (lg_sl ([.ref (ad 11 0), .int (iv x1), .int (iv x2)])).length) Slot.unset).toArray = ls at hl ⊢
  have hl : lv_has ls 9 [(0, .ref (ad 11 0)), (1, .int (iv x1)), (2, .int (iv x2))] := hl
  have h : Hs D ct ad L φ N0 s.heap σ s.heap [] := h
  unfold wp_X11_hand at hw
  refine j_iconst X dX11_hand_0 ?_
  refine lv_istore_n (lv' := [(3, .int (iv 0)), (0, .ref (ad 11 0)), (1, .int (iv x1)), (2, .int (iv x2))]) X.1 X.2.1 dX11_hand_1 rfl hl (by decide) rfl (fun ls hl => ?_)
  refine j_iconst X dX11_hand_2 ?_
  refine lv_istore (lv' := [(4, .int (iv 0)), (3, .int (iv 0)), (0, .ref (ad 11 0)), (1, .int (iv x1)), (2, .int (iv x2))]) X.1 X.2.1 dX11_hand_3 hl (by decide) rfl (fun ls hl => ?_)
  refine j_iconst X dX11_hand_5 ?_
  refine lv_istore (lv' := [(5, .int (iv 0)), (4, .int (iv 0)), (3, .int (iv 0)), (0, .ref (ad 11 0)), (1, .int (iv x1)), (2, .int (iv x2))]) X.1 X.2.1 dX11_hand_6 hl (by decide) rfl (fun ls hl => ?_)
  refine j_iconst X dX11_hand_8 ?_
  refine lv_istore (lv' := [(6, .int (iv 0)), (5, .int (iv 0)), (4, .int (iv 0)), (3, .int (iv 0)), (0, .ref (ad 11 0)), (1, .int (iv x1)), (2, .int (iv x2))]) X.1 X.2.1 dX11_hand_9 hl (by decide) rfl (fun ls hl => ?_)
  refine j_iconst X dX11_hand_11 ?_
  refine lv_istore (lv' := [(7, .int (iv 0)), (6, .int (iv 0)), (5, .int (iv 0)), (4, .int (iv 0)), (3, .int (iv 0)), (0, .ref (ad 11 0)), (1, .int (iv x1)), (2, .int (iv x2))]) X.1 X.2.1 dX11_hand_12 hl (by decide) rfl (fun ls hl => ?_)
  exact hw.elim (fun n14 hw => lb_X11_hand_14 X Y (lb_X11_hand_94 X Y) n14 σ x1 x2 0 0 0 0 0 _ _ _ hw h (lv_sub hl [5, 6, 7, 4, 3, 2, 1, 0] rfl))
end
section
variable {p : Program} {l : Launch} {e : Env} {s : State} {m : MethodId} {args : Array Value} {below : List Frame} {meth : Method} {c : Code} {D : va_G} {ct : Nat → ClassId} {ad : Nat → Nat → Nat} {L : List (Nat × Nat)} {φ : Nat → Nat → Nat → Bool} {N0 : Nat} {Q : Int → St → Prop} {Qx : St → Prop}
set_option maxRecDepth 100000 in
set_option maxHeartbeats 4000000 in
theorem lb_X11_each_23 (X : Cx p s m meth c args cX11_each 3 (some .int) RX11 D ct L φ N0) (Y : Yx l c N0 s) (σ : St) (H : Heap) (locs : List Loc) (ls : Array Slot) (hw : wp_X11_each_23 Q Qx σ) (h : Hs D ct ad L φ N0 s.heap σ H locs) (hl : lv_has ls 3 []) : W p l e ({ frames := 6, cells := 1, slots := 6, locals := 81 } : Room) s m args below meth c H locs 0 0 (vx_MQ below (Qi D ct ad L φ N0 Q) (Xq D ct ad L φ N0 Qx) args s 1 6 (AA N0)) (F0 m 23 ls []) := by
  have hF := X.2.2.2.2.2.2.2.2.1
  unfold wp_X11_each_23 at hw
  exact r_throw X Y hl.1 h hw dX11_each_23 dX11_each_26 dX11_each_27 dX11_each_30
theorem pd_X11_each : yX11_each.cls ≠ "java/lang/invoke/MethodHandle" ∧ yX11_each.cls ≠ "java/lang/invoke/VarHandle" ∧ (parseMethodDescriptor yX11_each.desc).map (fun d => d.parameters.length) = some 2 := by decide +kernel
set_option maxRecDepth 100000 in
set_option maxHeartbeats 4000000 in
theorem c_X11_each (l : Launch) (hl0 : l.stackTraces = false) (D : va_G) (ct : Nat → ClassId) (ad : Nat → Nat → Nat) (L : List (Nat × Nat)) (φ : Nat → Nat → Nat → Bool) (N0 : Nat) (σ : St) (x1 : Int) (x2 : Int) (Q : Int → St → Prop) (Qx : St → Prop) (hw : wp_X11_each σ x1 x2 Q Qx) : vx_Met l yX11_each (.code yX11_each cX11_each 3 (some .int) :: gw) ({ frames := 6, cells := 1, slots := 6, locals := 81 } : Room) (Pmx D ct ad L φ N0 σ [.ref (ad 11 0), .int (iv x1), .int (iv x2)]) (Qi D ct ad L φ N0 Q) (Xq D ct ad L φ N0 Qx) 1 6 (AA N0) := by
  refine m_ofX (by decide) hl0 (fun p e s m below meth c X Y h => ?_)
  have hF := X.2.2.2.2.2.2.2.2.1
  have hl := lv_entry ([.ref (ad 11 0), .int (iv x1), .int (iv x2)]) (n := 3) (Nat.le_of_ble_eq_true rfl)
  rw [lg_entry_eq]
  generalize (lg_sl ([.ref (ad 11 0), .int (iv x1), .int (iv x2)]) ++ List.replicate (3 - (lg_sl ([.ref (ad 11 0), .int (iv x1), .int (iv x2)])).length) Slot.unset).toArray = ls at hl ⊢
  have hl : lv_has ls 3 [(0, .ref (ad 11 0)), (1, .int (iv x1)), (2, .int (iv x2))] := hl
  have h : Hs D ct ad L φ N0 s.heap σ s.heap [] := h
  unfold wp_X11_each at hw
  refine lv_aload_n X.1 X.2.1 dX11_each_0 rfl (lv_at hl 0 rfl) ?_
  refine r_getR (ci := 11) X inw_11 h (hF.1 11 rfl).1 rfl rfl 19 (by decide) kw_477 rfl ((hF.1 11 rfl).2 19) dX11_each_1 ?_
  refine lv_iload_n X.1 X.2.1 dX11_each_4 rfl (lv_at hl 1 rfl) ?_
  refine lv_iload_n X.1 X.2.1 dX11_each_5 rfl (lv_at hl 2 rfl) ?_
  refine k_i h (r_V (C := RX2) (ci := 2) (As := [.int (iv x1), .int (iv x2)]) (rest := []) X h (c_X2_hasPlace l D ct ad L φ N0 σ x1 x2 _ hw) rfl rfl ⟨Nat.le_of_ble_eq_true rfl, Nat.le_of_ble_eq_true rfl⟩ kw_1439 kw_1440 kw_1441 kw_128 kw_1442 ⟨rfl, pd_X2_hasPlace⟩ (hF.1 2 rfl).1 rfl rfl rfl hl.1 rfl (Nat.le_of_ble_eq_true rfl) ⟨Nat.le_of_ble_eq_true rfl, Nat.le_of_ble_eq_true rfl⟩ dX11_each_6) (fun r_2 σ_1 H locs hw h => ?_)
  obtain ⟨g_3, hwt, hwf⟩ := hw
  refine j_if_eq (tgt := 23) X g_3 dX11_each_9 (by decide) (fun c_10 => ?_) (fun c_10 => ?_)
  · have hw := hwt c_10
    exact lb_X11_each_23 X Y σ_1 _ _ _ hw h (lv_sub hl [] rfl)
  · have hw := hwf c_10
    refine lv_aload_n X.1 X.2.1 dX11_each_12 rfl (lv_at hl 0 rfl) ?_
    refine r_getR (ci := 11) X inw_11 h (hF.1 11 rfl).1 rfl rfl 19 (by decide) kw_477 rfl ((hF.1 11 rfl).2 19) dX11_each_13 ?_
    refine lv_iload_n X.1 X.2.1 dX11_each_16 rfl (lv_at hl 1 rfl) ?_
    refine k_i h (r_V (C := RX2) (ci := 2) (As := [.int (iv x1)]) (rest := []) X h (c_X2_hasNumber l D ct ad L φ N0 σ_1 x1 _ hw) rfl rfl ⟨Nat.le_of_ble_eq_true rfl, Nat.le_of_ble_eq_true rfl⟩ kw_1459 kw_1460 kw_1461 kw_128 kw_1462 ⟨rfl, pd_X2_hasNumber⟩ (hF.1 2 rfl).1 rfl rfl rfl hl.1 rfl (Nat.le_of_ble_eq_true rfl) ⟨Nat.le_of_ble_eq_true rfl, Nat.le_of_ble_eq_true rfl⟩ dX11_each_17) (fun r_5 σ_4 H locs hw h => ?_)
    obtain ⟨g_6, hwt, hwf⟩ := hw
    refine j_if_ne (tgt := 31) X g_6 dX11_each_20 (by decide) (fun c_9 => ?_) (fun c_9 => ?_)
    · have hw := hwt c_9
      refine lv_aload_n X.1 X.2.1 dX11_each_31 rfl (lv_at hl 0 rfl) ?_
      refine r_getR (ci := 11) X inw_11 h (hF.1 11 rfl).1 rfl rfl 19 (by decide) kw_477 rfl ((hF.1 11 rfl).2 19) dX11_each_32 ?_
      refine lv_iload_n X.1 X.2.1 dX11_each_35 rfl (lv_at hl 1 rfl) ?_
      refine lv_iload_n X.1 X.2.1 dX11_each_36 rfl (lv_at hl 2 rfl) ?_
      refine k_i h (r_V (C := RX2) (ci := 2) (As := [.int (iv x1), .int (iv x2)]) (rest := []) X h (c_X2_eighthsAt l D ct ad L φ N0 σ_4 x1 x2 _ hw) rfl rfl ⟨Nat.le_of_ble_eq_true rfl, Nat.le_of_ble_eq_true rfl⟩ kw_1624 kw_1472 kw_1473 kw_128 kw_1474 ⟨rfl, pd_X2_eighthsAt⟩ (hF.1 2 rfl).1 rfl rfl rfl hl.1 rfl (Nat.le_of_ble_eq_true rfl) ⟨Nat.le_of_ble_eq_true rfl, Nat.le_of_ble_eq_true rfl⟩ dX11_each_37) (fun r_8 σ_7 H locs hw h => ?_)
      exact vx_ret (W.widen (k := 1) (n := 6) (by decide) (by decide) (k_ir X rfl h hw dX11_each_40))
    · have hw := hwf c_9
      exact lb_X11_each_23 X Y σ_4 _ _ _ hw h (lv_sub hl [] rfl)
end
section
variable {p : Program} {l : Launch} {e : Env} {s : State} {m : MethodId} {args : Array Value} {below : List Frame} {meth : Method} {c : Code} {D : va_G} {ct : Nat → ClassId} {ad : Nat → Nat → Nat} {L : List (Nat × Nat)} {φ : Nat → Nat → Nat → Bool} {N0 : Nat} {Q : Int → St → Prop} {Qx : St → Prop}
set_option maxRecDepth 100000 in
set_option maxHeartbeats 4000000 in
theorem lb_X11_orderOf_62 (X : Cx p s m meth c args cX11_orderOf 4 (some .int) RX11 D ct L φ N0) (Y : Yx l c N0 s) (σ : St) (x1 : Int) (x2 : Int) (x3 : Int) (H : Heap) (locs : List Loc) (ls : Array Slot) (hw : wp_X11_orderOf_62 Q Qx σ x1 x2 x3) (h : Hs D ct ad L φ N0 s.heap σ H locs) (hl : lv_has ls 4 [(0, .ref (ad 11 0)), (1, .int (iv x1)), (2, .int (iv x2)), (3, .int (iv x3))]) : W p l e ({ frames := 6, cells := 1, slots := 6, locals := 81 } : Room) s m args below meth c H locs 0 0 (vx_MQ below (Qi D ct ad L φ N0 Q) (Xq D ct ad L φ N0 Qx) args s 1 6 (AA N0)) (F0 m 62 ls []) := by
  have hF := X.2.2.2.2.2.2.2.2.1
  unfold wp_X11_orderOf_62 at hw
  refine lv_iload_n X.1 X.2.1 dX11_orderOf_62 rfl (lv_at hl 2 rfl) ?_
  obtain ⟨g_1, hwt, hwf⟩ := hw
  refine j_if_ne (tgt := 76) X g_1 dX11_orderOf_63 (by decide) (fun c_8 => ?_) (fun c_8 => ?_)
  · have hw := hwt c_8
    refine lv_iload_n X.1 X.2.1 dX11_orderOf_76 rfl (lv_at hl 2 rfl) ?_
    refine j_iconst X dX11_orderOf_77 ?_
    obtain ⟨g_2, hwt, hwf⟩ := hw
    refine j_cmp_ne (tgt := 85) X g_2 ⟨by decide, by decide⟩ dX11_orderOf_78 (by decide) (fun c_5 => ?_) (fun c_5 => ?_)
    · have hw := hwt c_5
      refine lv_aload_n X.1 X.2.1 dX11_orderOf_85 rfl (lv_at hl 0 rfl) ?_
      refine r_getR (ci := 11) X inw_11 h (hF.1 11 rfl).1 rfl rfl 17 (by decide) kw_475 rfl ((hF.1 11 rfl).2 17) dX11_orderOf_86 ?_
      refine r_getRN (ci := 6) X inw_6 h (hF.1 6 rfl).1 rfl rfl 4 (by decide) kw_339 rfl ((hF.1 6 rfl).2 4) dX11_orderOf_89 ?_
      refine lv_iload_n X.1 X.2.1 dX11_orderOf_92 rfl (lv_at hl 1 rfl) ?_
      obtain ⟨g_3, g_4, hw⟩ := hw
      refine r_iald (n := 30) X h (hF.1 59 rfl).1 rfl (by decide) g_3 g_4 dX11_orderOf_93 ?_
      refine lv_iload_n X.1 X.2.1 dX11_orderOf_94 rfl (lv_at hl 3 rfl) ?_
      refine j_isub X dX11_orderOf_95 ?_
      exact vx_ret (W.widen (k := 1) (n := 6) (by decide) (by decide) (k_ir X rfl h hw dX11_orderOf_96))
    · have hw := hwf c_5
      refine lv_iload_n X.1 X.2.1 dX11_orderOf_81 rfl (lv_at hl 3 rfl) ?_
      refine lv_goto (tgt := 96) X.1 X.2.1 dX11_orderOf_82 (by decide) ?_
      exact vx_ret (W.widen (k := 1) (n := 6) (by decide) (by decide) (k_ir X rfl h hw dX11_orderOf_96))
  · have hw := hwf c_8
    refine lv_aload_n X.1 X.2.1 dX11_orderOf_66 rfl (lv_at hl 0 rfl) ?_
    refine r_getR (ci := 11) X inw_11 h (hF.1 11 rfl).1 rfl rfl 17 (by decide) kw_475 rfl ((hF.1 11 rfl).2 17) dX11_orderOf_67 ?_
    refine r_getRN (ci := 6) X inw_6 h (hF.1 6 rfl).1 rfl rfl 2 (by decide) kw_336 rfl ((hF.1 6 rfl).2 2) dX11_orderOf_70 ?_
    refine lv_iload_n X.1 X.2.1 dX11_orderOf_73 rfl (lv_at hl 1 rfl) ?_
    obtain ⟨g_6, g_7, hw⟩ := hw
    refine r_iald (n := 30) X h (hF.1 57 rfl).1 rfl (by decide) g_6 g_7 dX11_orderOf_74 ?_
    exact vx_ret (W.widen (k := 1) (n := 6) (by decide) (by decide) (k_ir X rfl h hw dX11_orderOf_75))
set_option maxRecDepth 100000 in
set_option maxHeartbeats 4000000 in
theorem lb_X11_orderOf_26 (X : Cx p s m meth c args cX11_orderOf 4 (some .int) RX11 D ct L φ N0) (Y : Yx l c N0 s) (σ : St) (H : Heap) (locs : List Loc) (ls : Array Slot) (hw : wp_X11_orderOf_26 Q Qx σ) (h : Hs D ct ad L φ N0 s.heap σ H locs) (hl : lv_has ls 4 []) : W p l e ({ frames := 6, cells := 1, slots := 6, locals := 81 } : Room) s m args below meth c H locs 0 0 (vx_MQ below (Qi D ct ad L φ N0 Q) (Xq D ct ad L φ N0 Qx) args s 1 6 (AA N0)) (F0 m 26 ls []) := by
  have hF := X.2.2.2.2.2.2.2.2.1
  unfold wp_X11_orderOf_26 at hw
  exact r_throw X Y hl.1 h hw dX11_orderOf_26 dX11_orderOf_29 dX11_orderOf_30 dX11_orderOf_33
theorem pd_X11_orderOf : yX11_orderOf.cls ≠ "java/lang/invoke/MethodHandle" ∧ yX11_orderOf.cls ≠ "java/lang/invoke/VarHandle" ∧ (parseMethodDescriptor yX11_orderOf.desc).map (fun d => d.parameters.length) = some 2 := by decide +kernel
set_option maxRecDepth 100000 in
set_option maxHeartbeats 4000000 in
theorem c_X11_orderOf (l : Launch) (hl0 : l.stackTraces = false) (D : va_G) (ct : Nat → ClassId) (ad : Nat → Nat → Nat) (L : List (Nat × Nat)) (φ : Nat → Nat → Nat → Bool) (N0 : Nat) (σ : St) (x1 : Int) (x2 : Int) (Q : Int → St → Prop) (Qx : St → Prop) (hw : wp_X11_orderOf σ x1 x2 Q Qx) : vx_Met l yX11_orderOf (.code yX11_orderOf cX11_orderOf 4 (some .int) :: gw) ({ frames := 6, cells := 1, slots := 6, locals := 81 } : Room) (Pmx D ct ad L φ N0 σ [.ref (ad 11 0), .int (iv x1), .int (iv x2)]) (Qi D ct ad L φ N0 Q) (Xq D ct ad L φ N0 Qx) 1 6 (AA N0) := by
  refine m_ofX (by decide) hl0 (fun p e s m below meth c X Y h => ?_)
  have hF := X.2.2.2.2.2.2.2.2.1
  have hl := lv_entry ([.ref (ad 11 0), .int (iv x1), .int (iv x2)]) (n := 4) (Nat.le_of_ble_eq_true rfl)
  rw [lg_entry_eq]
  generalize (lg_sl ([.ref (ad 11 0), .int (iv x1), .int (iv x2)]) ++ List.replicate (4 - (lg_sl ([.ref (ad 11 0), .int (iv x1), .int (iv x2)])).length) Slot.unset).toArray = ls at hl ⊢
  have hl : lv_has ls 4 [(0, .ref (ad 11 0)), (1, .int (iv x1)), (2, .int (iv x2))] := hl
  have h : Hs D ct ad L φ N0 s.heap σ s.heap [] := h
  unfold wp_X11_orderOf at hw
  refine lv_iload_n X.1 X.2.1 dX11_orderOf_0 rfl (lv_at hl 1 rfl) ?_
  refine j_iconst X dX11_orderOf_1 ?_
  refine lv_aload_n X.1 X.2.1 dX11_orderOf_2 rfl (lv_at hl 0 rfl) ?_
  refine r_getR (ci := 11) X inw_11 h (hF.1 11 rfl).1 rfl rfl 17 (by decide) kw_475 rfl ((hF.1 11 rfl).2 17) dX11_orderOf_3 ?_
  refine r_getN (ci := 6) X inw_6 h (hF.1 6 rfl).1 rfl rfl 6 (by decide) kw_343 rfl dX11_orderOf_6 ?_
  refine j_iconst X dX11_orderOf_9 ?_
  refine j_isub X dX11_orderOf_10 ?_
  refine k_i h (r_S (As := [.int (iv x1), .int (iv 0), .int (iv ((σ 6 0 6) - 1))]) (rest := []) X h (c_X11_within l D ct ad L φ N0 σ x1 0 ((σ 6 0 6) - 1) _ hw) rfl rfl ⟨Nat.le_of_ble_eq_true rfl, Nat.le_of_ble_eq_true rfl⟩ kw_526 kw_527 kw_120 kw_528 pd_X11_within rfl hl.1 rfl (Nat.le_of_ble_eq_true rfl) ⟨Nat.le_of_ble_eq_true rfl, Nat.le_of_ble_eq_true rfl⟩ dX11_orderOf_11) (fun r_10 σ_9 H locs hw h => ?_)
  obtain ⟨g_11, hwt, hwf⟩ := hw
  refine j_if_eq (tgt := 26) X g_11 dX11_orderOf_14 (by decide) (fun c_23 => ?_) (fun c_23 => ?_)
  · have hw := hwt c_23
    exact lb_X11_orderOf_26 X Y σ_9 _ _ _ hw h (lv_sub hl [] rfl)
  · have hw := hwf c_23
    refine lv_iload_n X.1 X.2.1 dX11_orderOf_17 rfl (lv_at hl 2 rfl) ?_
    refine j_iconst X dX11_orderOf_18 ?_
    refine j_iconst X dX11_orderOf_19 ?_
    refine k_i h (r_S (As := [.int (iv x2), .int (iv 0), .int (iv 2)]) (rest := []) X h (c_X11_within l D ct ad L φ N0 σ_9 x2 0 2 _ hw) rfl rfl ⟨Nat.le_of_ble_eq_true rfl, Nat.le_of_ble_eq_true rfl⟩ kw_526 kw_527 kw_120 kw_528 pd_X11_within rfl hl.1 rfl (Nat.le_of_ble_eq_true rfl) ⟨Nat.le_of_ble_eq_true rfl, Nat.le_of_ble_eq_true rfl⟩ dX11_orderOf_20) (fun r_13 σ_12 H locs hw h => ?_)
    obtain ⟨g_14, hwt, hwf⟩ := hw
    refine j_if_ne (tgt := 34) X g_14 dX11_orderOf_23 (by decide) (fun c_22 => ?_) (fun c_22 => ?_)
    · have hw := hwt c_22
      refine lv_aload_n X.1 X.2.1 dX11_orderOf_34 rfl (lv_at hl 0 rfl) ?_
      refine r_getR (ci := 11) X inw_11 h (hF.1 11 rfl).1 rfl rfl 17 (by decide) kw_475 rfl ((hF.1 11 rfl).2 17) dX11_orderOf_35 ?_
      refine r_getRN (ci := 6) X inw_6 h (hF.1 6 rfl).1 rfl rfl 5 (by decide) kw_341 rfl ((hF.1 6 rfl).2 5) dX11_orderOf_38 ?_
      refine lv_iload_n X.1 X.2.1 dX11_orderOf_41 rfl (lv_at hl 1 rfl) ?_
      obtain ⟨g_15, g_16, hw⟩ := hw
      refine r_iald (n := 30) X h (hF.1 60 rfl).1 rfl (by decide) g_15 g_16 dX11_orderOf_42 ?_
      refine j_bind (fun v_17 ev_17 => ?_)
      have hw := hw v_17 ev_17
      refine lv_istore_n (lv' := [(3, .int (iv v_17)), (0, .ref (ad 11 0)), (1, .int (iv x1)), (2, .int (iv x2))]) X.1 X.2.1 dX11_orderOf_43 rfl hl (by decide) rfl (fun ls hl => ?_)
      refine lv_iload_n X.1 X.2.1 dX11_orderOf_44 rfl (lv_at hl 3 rfl) ?_
      refine j_iconst X dX11_orderOf_45 ?_
      obtain ⟨g_18, hwt, hwf⟩ := hw
      refine j_cmp_ne (tgt := 62) X g_18 ⟨by decide, by decide⟩ dX11_orderOf_46 (by decide) (fun c_21 => ?_) (fun c_21 => ?_)
      · have hw := hwt c_21
        exact lb_X11_orderOf_62 X Y σ_12 x1 x2 v_17 _ _ _ hw h (lv_sub hl [1, 2, 3, 0] rfl)
      · have hw := hwf c_21
        refine lv_iload_n X.1 X.2.1 dX11_orderOf_49 rfl (lv_at hl 0 rfl) ?_
        refine j_iconst X dX11_orderOf_50 ?_
        obtain ⟨g_19, hwt, hwf⟩ := hw
        refine j_cmp_ne (tgt := 62) X g_19 ⟨by decide, by decide⟩ dX11_orderOf_51 (by decide) (fun c_20 => ?_) (fun c_20 => ?_)
        · have hw := hwt c_20
          exact lb_X11_orderOf_62 X Y σ_12 x1 x2 v_17 _ _ _ hw h (lv_sub hl [1, 2, 3, 0] rfl)
        · have hw := hwf c_20
          exact r_throw X Y hl.1 h hw dX11_orderOf_54 dX11_orderOf_57 dX11_orderOf_58 dX11_orderOf_61
    · have hw := hwf c_22
      exact lb_X11_orderOf_26 X Y σ_12 _ _ _ hw h (lv_sub hl [] rfl)
end
