/-! makeLogs, walked by program -/
section
variable {p : Program} {l : Launch} {e : Env} {s : State} {m : MethodId} {args : Array Value} {below : List Frame} {meth : Method} {c : Code} {D : va_G} {ct : Nat → ClassId} {ad0 : Nat → Nat → Nat} {L0 : List (Nat × Nat)} {N0 : Nat}
variable {Q : Int → St → Prop}
set_option maxRecDepth 100000 in
set_option maxHeartbeats 4000000 in
theorem lb_X11_makeLogs_9 : ∀ (n : Nat) (σ : St) (a : Nat) (x1 : Int) (x2 : Int) (x3 : Int) (x4 : Int) (x5 : Int) (x6 : Int) (x7 : Int) (ad : Nat → Nat → Nat) (L : List (Nat × Nat)) (φ : Nat → Nat → Nat → Bool) (H : Heap) (locs : List Loc) (ls : Array Slot), Cx p s m meth c args cX11_makeLogs 10 (some .int) RX11 D ct L φ N0 → Ext ad0 L0 ad L → wp_X11_makeLogs_9 Q n σ a x1 x2 x3 x4 x5 x6 x7 → Hs D ct ad L φ N0 s.heap σ H locs → lv_has ls 10 [(0, .ref (ad 11 0)), (1, .int (iv x1)), (2, .int (iv x2)), (3, .int (iv x3)), (4, .int (iv x4)), (5, .int (iv x5)), (6, .int (iv x6)), (7, .int (iv x7))] → W p l e ({ frames := 4, cells := 25, slots := 165, locals := 86 } : Room) s m args below meth c H locs (5 * a) (33 * a) (MQ below (Qiw D ct N0 ad0 L0 Q) args s 25 165 (AA N0)) (F0 m 9 ls []) := by
  intro n
  induction n with
  | zero => intro σ a x1 x2 x3 x4 x5 x6 x7 ad L φ H locs ls X hE hw; exact hw.elim
  | succ n ih =>
    intro σ a x1 x2 x3 x4 x5 x6 x7 ad L φ H locs ls X hE hw h hl
    have hF := X.2.2.2.2.2.2.2.2.1
    unfold wp_X11_makeLogs_9 at hw
    refine lv_iload X.1 X.2.1 dX11_makeLogs_9 (lv_at hl 7 rfl) ?_
    refine lv_aload_n X.1 X.2.1 dX11_makeLogs_11 rfl (lv_at hl 0 rfl) ?_
    refine r_getR (ci := 11) X inw_11 h (hF.1 11 rfl).1 rfl rfl 2 (by decide) kw_460 rfl ((hF.1 11 rfl).2 2) dX11_makeLogs_12 ?_
    refine r_getN (ci := 0) X inw_0 h (hF.1 0 rfl).1 rfl rfl 4 (by decide) kw_234 rfl dX11_makeLogs_15 ?_
    obtain ⟨g_1, g_2, hwt, hwf⟩ := hw
    refine j_cmp_ge (tgt := 130) X g_1 g_2 dX11_makeLogs_18 (by decide) (fun c_27 => ?_) (fun c_27 => ?_)
    · have hw := hwt c_27
      refine lv_iload X.1 X.2.1 dX11_makeLogs_130 (lv_at hl 5 rfl) ?_
      obtain ⟨ha9, hw⟩ := hw
      refine W.widen (k := 25) (n := 165) (by omega) (by omega) ?_
      exact k_irw X hE rfl h hw dX11_makeLogs_132
    · have hw := hwf c_27
      refine lv_aload_n X.1 X.2.1 dX11_makeLogs_21 rfl (lv_at hl 0 rfl) ?_
      refine r_getR (ci := 11) X inw_11 h (hF.1 11 rfl).1 rfl rfl 2 (by decide) kw_460 rfl ((hF.1 11 rfl).2 2) dX11_makeLogs_22 ?_
      refine r_getRN (ci := 0) X inw_0 h (hF.1 0 rfl).1 rfl rfl 3 (by decide) kw_232 rfl ((hF.1 0 rfl).2 3) dX11_makeLogs_25 ?_
      refine lv_iload X.1 X.2.1 dX11_makeLogs_28 (lv_at hl 7 rfl) ?_
      obtain ⟨g_3, g_4, hw⟩ := hw
      refine r_iald (n := 5) X h (hF.1 23 rfl).1 rfl (by decide) g_3 g_4 dX11_makeLogs_30 ?_
      refine j_bind (fun v_5 ev_5 => ?_)
      have hw := hw v_5 ev_5
      refine lv_istore (lv' := [(8, .int (iv v_5)), (0, .ref (ad 11 0)), (1, .int (iv x1)), (2, .int (iv x2)), (3, .int (iv x3)), (4, .int (iv x4)), (5, .int (iv x5)), (6, .int (iv x6)), (7, .int (iv x7))]) X.1 X.2.1 dX11_makeLogs_31 hl (by decide) rfl (fun ls hl => ?_)
      refine lv_iload X.1 X.2.1 dX11_makeLogs_33 (lv_at hl 7 rfl) ?_
      refine lv_iload X.1 X.2.1 dX11_makeLogs_35 (lv_at hl 0 rfl) ?_
      refine j_iadd X dX11_makeLogs_37 ?_
      refine j_bind (fun v_6 ev_6 => ?_)
      have hw := hw v_6 ev_6
      refine lv_istore (lv' := [(6, .int (iv v_6)), (8, .int (iv v_5)), (0, .ref (ad 11 0)), (1, .int (iv x1)), (2, .int (iv x2)), (3, .int (iv x3)), (4, .int (iv x4)), (5, .int (iv x5)), (7, .int (iv x7))]) X.1 X.2.1 dX11_makeLogs_38 hl (by decide) rfl (fun ls hl => ?_)
      obtain ⟨g_9, g_7, g_8, hw⟩ := hw
      refine r_new (k := 4) (n := (Int.toNat (σ 11 0 4))) (fl := 5) (zs := [.int (iv 0), .int (iv 0), .int (iv 0), .int (iv 0), .int (iv 0), .int (iv 0), .int (iv 0), .int (iv 0), .int (iv 0), .int (iv 0), .null, .null, .null, .null, .int (iv 0), .int (iv 0)]) X h (Or.inr (Or.inr ⟨rfl, rfl⟩)) (fun _ => g_7) g_8 inw_4 tyX4_ok kw_246 kw_700 kw_131 rfl (by decide +kernel) (fun _ _ => rfl) (by show _ ≤ 25; omega) (by show _ ≤ 165; omega) dX11_makeLogs_40 (fun ad L φ H hE1 hFn hmn hφn hAn h => ?_)
      rw [← (hE1 11 0 (hF.1 11 rfl).1).2] at hl
      have hE := hE.tr hE1
      have X := X.grow hFn
      have hF := hFn
      obtain ⟨σ_10, eσ_10⟩ : ∃ z : St, z = st (sta σ 4 (Int.toNat (σ 11 0 4)) z0) 50 5 (Int.toNat (σ 11 0 4)) 1 := ⟨_, rfl⟩
      rw [← eσ_10] at h
      have hw := hw σ_10 eσ_10
      refine lv_dup X.1 X.2.1 dX11_makeLogs_43 rfl ?_
      refine lv_aload_n X.1 X.2.1 dX11_makeLogs_44 rfl (lv_at hl 2 rfl) ?_
      refine r_get (ci := 11) X inw_11 h (hF.1 11 rfl).1 rfl rfl 4 (by decide) kw_462 rfl dX11_makeLogs_45 ?_
      refine lv_iload_n X.1 X.2.1 dX11_makeLogs_48 rfl (lv_at hl 3 rfl) ?_
      refine lv_iload_n X.1 X.2.1 dX11_makeLogs_49 rfl (lv_at hl 4 rfl) ?_
      refine lv_iload X.1 X.2.1 dX11_makeLogs_50 (lv_at hl 1 rfl) ?_
      refine lv_aload_n X.1 X.2.1 dX11_makeLogs_52 rfl (lv_at hl 2 rfl) ?_
      refine r_getR (ci := 11) X inw_11 h (hF.1 11 rfl).1 rfl rfl 1 (by decide) kw_459 rfl ((hF.1 11 rfl).2 1) dX11_makeLogs_53 ?_
      refine lv_iload_n X.1 X.2.1 dX11_makeLogs_56 rfl (lv_at hl 4 rfl) ?_
      refine lv_iload_n X.1 X.2.1 dX11_makeLogs_57 rfl (lv_at hl 5 rfl) ?_
      refine lv_iload X.1 X.2.1 dX11_makeLogs_58 (lv_at hl 0 rfl) ?_
      refine k_i h (r_V (C := RX3) (ci := 3) (As := [.int (iv x2), .int (iv x3), .int (iv v_6)]) (rest := [.int (iv v_5), .int (iv x2), .int (iv x1), .int (iv (σ_10 11 0 4)), .ref (ad 4 (Int.toNat (σ 11 0 4))), .ref (ad 4 (Int.toNat (σ 11 0 4)))]) X h (c_X3_wideAt l D ct ad L φ N0 σ_10 x2 x3 v_6 _ hw) rfl rfl ⟨Nat.le_of_ble_eq_true rfl, Nat.le_of_ble_eq_true rfl⟩ kw_701 kw_615 kw_616 kw_122 kw_617 ⟨rfl, pd_X3_wideAt⟩ (hF.1 3 rfl).1 rfl rfl rfl hl.1 rfl (Nat.le_of_ble_eq_true rfl) ⟨(by show _ ≤ 25; omega), (by show _ ≤ 165; omega)⟩ dX11_makeLogs_60) (fun r_12 σ_11 H locs hw h => ?_)
      refine lv_iload X.1 X.2.1 dX11_makeLogs_63 (lv_at hl 6 rfl) ?_
      refine k_vw h (r_I (As := [.int (iv (σ_10 11 0 4)), .int (iv x1), .int (iv x2), .int (iv v_5), .int (iv r_12), .int (iv x4)]) (rest := [.ref (ad 4 (Int.toNat (σ 11 0 4)))]) X h (c_X4_init l D ct ad L φ N0 σ_11 (Int.toNat (σ 11 0 4)) (σ_10 11 0 4) x1 x2 v_5 r_12 x4 _ hmn hφn (hAn rfl) hw) rfl rfl ⟨Nat.le_of_ble_eq_true rfl, Nat.le_of_ble_eq_true rfl⟩ kw_702 kw_703 kw_131 kw_704 rfl pd_X4_init rfl hl.1 rfl (Nat.le_of_ble_eq_true rfl) ⟨(by show _ ≤ 25; omega), (by show _ ≤ 165; omega)⟩ dX11_makeLogs_65) (fun ad L φ σ_13 H locs hw hE1 hFn h => ?_)
      rw [← (hE1 11 0 (hF.1 11 rfl).1).2] at hl
      rw [← (hE1 4 (Int.toNat (σ 11 0 4)) hmn).2]
      have hmn := (hE1 4 (Int.toNat (σ 11 0 4)) hmn).1
      have hE := hE.tr hE1
      have X := X.grow hFn
      have hF := hFn
      refine lv_astore (lv' := [(9, .ref (ad 4 (Int.toNat (σ 11 0 4)))), (6, .int (iv v_6)), (8, .int (iv v_5)), (0, .ref (ad 11 0)), (1, .int (iv x1)), (2, .int (iv x2)), (3, .int (iv x3)), (4, .int (iv x4)), (5, .int (iv x5)), (7, .int (iv x7))]) X.1 X.2.1 dX11_makeLogs_68 hl (by decide) rfl (fun ls hl => ?_)
      refine lv_aload X.1 X.2.1 dX11_makeLogs_70 (lv_at hl 0 rfl) ?_
      refine lv_aload_n X.1 X.2.1 dX11_makeLogs_72 rfl (lv_at hl 3 rfl) ?_
      refine r_getR (ci := 11) X inw_11 h (hF.1 11 rfl).1 rfl rfl 0 (by decide) kw_458 rfl ((hF.1 11 rfl).2 0) dX11_makeLogs_73 ?_
      refine r_getN (ci := 7) X inw_7 h (hF.1 7 rfl).1 rfl rfl 3 (by decide) kw_164 rfl dX11_makeLogs_76 ?_
      obtain ⟨g_14, hw⟩ := hw
      refine k_v h (r_V (C := RX4) (ci := 4) (As := [.int (iv (σ_13 7 0 3))]) (rest := []) X h (c_X4_comeOn l D ct ad L φ N0 σ_13 (Int.toNat (σ 11 0 4)) (σ_13 7 0 3) _ hw) rfl rfl ⟨Nat.le_of_ble_eq_true rfl, Nat.le_of_ble_eq_true rfl⟩ kw_763 kw_764 kw_765 kw_131 kw_766 ⟨rfl, pd_X4_comeOn⟩ (h.2.2.1 (Int.toNat (σ 11 0 4)) g_14).1 rfl rfl rfl hl.1 rfl (Nat.le_of_ble_eq_true rfl) ⟨(by show _ ≤ 25; omega), (by show _ ≤ 165; omega)⟩ dX11_makeLogs_79) (fun σ_15 H locs hw h => ?_)
      refine lv_aload_n X.1 X.2.1 dX11_makeLogs_82 rfl (lv_at hl 3 rfl) ?_
      refine r_getR (ci := 11) X inw_11 h (hF.1 11 rfl).1 rfl rfl 3 (by decide) kw_461 rfl ((hF.1 11 rfl).2 3) dX11_makeLogs_83 ?_
      refine lv_aload_n X.1 X.2.1 dX11_makeLogs_86 rfl (lv_at hl 3 rfl) ?_
      refine r_get (ci := 11) X inw_11 h (hF.1 11 rfl).1 rfl rfl 4 (by decide) kw_462 rfl dX11_makeLogs_87 ?_
      refine lv_aload X.1 X.2.1 dX11_makeLogs_90 (lv_at hl 0 rfl) ?_
      obtain ⟨g_16, g_17, g_19, g_18, hw⟩ := hw
      refine r_aast (N := 300) (t := 3) X h (Or.inl ⟨rfl, rfl, rfl⟩) (hF.1 77 rfl).1 (h.2.2.1 (Int.toNat (σ 11 0 4)) g_18).1 (fun _ => rfl) rfl rfl rfl (by decide) g_16 g_17 g_19 g_18 dX11_makeLogs_92 (fun H locs h => ?_)
      obtain ⟨σ_20, eσ_20⟩ : ∃ z : St, z = st σ_15 77 0 (Int.toNat (σ 11 0 4)) 1 := ⟨_, rfl⟩
      rw [← eσ_20] at h
      have hw := hw σ_20 eσ_20
      refine lv_aload_n X.1 X.2.1 dX11_makeLogs_93 rfl (lv_at hl 3 rfl) ?_
      refine lv_dup X.1 X.2.1 dX11_makeLogs_94 rfl ?_
      refine r_get (ci := 11) X inw_11 h (hF.1 11 rfl).1 rfl rfl 4 (by decide) kw_462 rfl dX11_makeLogs_95 ?_
      refine j_iconst X dX11_makeLogs_98 ?_
      refine j_iadd X dX11_makeLogs_99 ?_
      refine r_put (ci := 11) X inw_11 tyX11 tyX11_ok nmX11 h (hF.1 11 rfl).1 rfl rfl 4 (by decide) kw_462 rfl rfl rfl (Nat.le_of_ble_eq_true rfl) rfl rfl dX11_makeLogs_100 (fun H locs h => ?_)
      obtain ⟨σ_21, eσ_21⟩ : ∃ z : St, z = st σ_20 11 0 4 ((σ_20 11 0 4) + 1) := ⟨_, rfl⟩
      rw [← eσ_21] at h
      have hw := hw σ_21 eσ_21
      refine lv_aload_n X.1 X.2.1 dX11_makeLogs_103 rfl (lv_at hl 3 rfl) ?_
      refine lv_aload X.1 X.2.1 dX11_makeLogs_104 (lv_at hl 0 rfl) ?_
      refine j_iconst X dX11_makeLogs_106 ?_
      refine k_v h (r_V (C := RX11) (ci := 11) (As := [.ref (ad 4 (Int.toNat (σ 11 0 4))), .int (iv 0)]) (rest := []) X h (c_X11_become l D ct ad L φ N0 σ_21 (Int.toNat (σ 11 0 4)) 0 _ hw) rfl rfl ⟨Nat.le_of_ble_eq_true rfl, Nat.le_of_ble_eq_true rfl⟩ kw_772 kw_774 kw_11 kw_120 kw_775 ⟨rfl, pd_X11_become⟩ (hF.1 11 rfl).1 rfl rfl rfl hl.1 rfl (Nat.le_of_ble_eq_true rfl) ⟨(by show _ ≤ 25; omega), (by show _ ≤ 165; omega)⟩ dX11_makeLogs_107) (fun σ_22 H locs hw h => ?_)
      refine lv_iload X.1 X.2.1 dX11_makeLogs_110 (lv_at hl 8 rfl) ?_
      refine lv_aload X.1 X.2.1 dX11_makeLogs_112 (lv_at hl 0 rfl) ?_
      refine lv_aload_n X.1 X.2.1 dX11_makeLogs_114 rfl (lv_at hl 3 rfl) ?_
      refine r_get (ci := 11) X inw_11 h (hF.1 11 rfl).1 rfl rfl 12 (by decide) kw_470 rfl dX11_makeLogs_115 ?_
      obtain ⟨g_23, hw⟩ := hw
      refine k_i h (r_V (C := RX4) (ci := 4) (As := [.int (iv (σ_22 11 0 12))]) (rest := [.int (iv x5)]) X h (c_X4_scaleBy l D ct ad L φ N0 σ_22 (Int.toNat (σ 11 0 4)) (σ_22 11 0 12) _ hw) rfl rfl ⟨Nat.le_of_ble_eq_true rfl, Nat.le_of_ble_eq_true rfl⟩ kw_780 kw_781 kw_782 kw_131 kw_783 ⟨rfl, pd_X4_scaleBy⟩ (h.2.2.1 (Int.toNat (σ 11 0 4)) g_23).1 rfl rfl rfl hl.1 rfl (Nat.le_of_ble_eq_true rfl) ⟨(by show _ ≤ 25; omega), (by show _ ≤ 165; omega)⟩ dX11_makeLogs_118) (fun r_25 σ_24 H locs hw h => ?_)
      refine j_iadd X dX11_makeLogs_121 ?_
      refine j_bind (fun v_26 ev_26 => ?_)
      have hw := hw v_26 ev_26
      refine lv_istore (lv' := [(5, .int (iv v_26)), (9, .ref (ad 4 (Int.toNat (σ 11 0 4)))), (6, .int (iv v_6)), (8, .int (iv v_5)), (0, .ref (ad 11 0)), (1, .int (iv x1)), (2, .int (iv x2)), (3, .int (iv x3)), (4, .int (iv x4)), (7, .int (iv x7))]) X.1 X.2.1 dX11_makeLogs_122 hl (by decide) rfl (fun ls hl => ?_)
      refine j_iinc (kk9 := 9) (lv' := [(7, .int (iv (x7 + 1))), (5, .int (iv v_26)), (9, .ref (ad 4 (Int.toNat (σ 11 0 4)))), (6, .int (iv v_6)), (8, .int (iv v_5)), (0, .ref (ad 11 0)), (1, .int (iv x1)), (2, .int (iv x2)), (3, .int (iv x3)), (4, .int (iv x4))]) X dX11_makeLogs_124 hl rfl (by decide) rfl (fun ls hl => ?_)
      refine lv_goto (tgt := 9) X.1 X.2.1 dX11_makeLogs_127 (by decide) ?_
      refine W.widen (k := 5 * (a + 1)) (n := 33 * (a + 1)) (by omega) (by omega) ?_
      exact ih σ_24 (a + 1) x1 x2 x3 x4 v_26 v_6 (x7 + 1) ad L φ _ _ _ X hE hw h (lv_sub hl [5, 6, 7, 8, 9, 1, 3, 0] rfl)
theorem pd_X11_makeLogs : yX11_makeLogs.cls ≠ "java/lang/invoke/MethodHandle" ∧ yX11_makeLogs.cls ≠ "java/lang/invoke/VarHandle" ∧ (parseMethodDescriptor yX11_makeLogs.desc).map (fun d => d.parameters.length) = some 4 := by decide +kernel
set_option maxRecDepth 100000 in
set_option maxHeartbeats 4000000 in
theorem c_X11_makeLogs (l : Launch) (D : va_G) (ct : Nat → ClassId) (ad : Nat → Nat → Nat) (L : List (Nat × Nat)) (φ : Nat → Nat → Nat → Bool) (N0 : Nat) (σ : St) (x1 : Int) (x2 : Int) (x3 : Int) (x4 : Int) (Q : Int → St → Prop) (hw : wp_X11_makeLogs σ x1 x2 x3 x4 Q) : Met l yX11_makeLogs (.code yX11_makeLogs cX11_makeLogs 10 (some .int) :: gw) ({ frames := 4, cells := 25, slots := 165, locals := 86 } : Room) (Pm D ct ad L φ N0 σ [.ref (ad 11 0), .int (iv x1), .int (iv x2), .int (iv x3), .int (iv x4)]) (Qiw D ct N0 ad L Q) 25 165 (AA N0) := by
  refine m_of (by decide) (fun p e s m below meth c X hnm h => ?_)
  have hF := X.2.2.2.2.2.2.2.2.1
  have hl := lv_entry ([.ref (ad 11 0), .int (iv x1), .int (iv x2), .int (iv x3), .int (iv x4)]) (n := 10) (Nat.le_of_ble_eq_true rfl)
  rw [lg_entry_eq]
  generalize (lg_sl ([.ref (ad 11 0), .int (iv x1), .int (iv x2), .int (iv x3), .int (iv x4)]) ++ List.replicate (10 - (lg_sl ([.ref (ad 11 0), .int (iv x1), .int (iv x2), .int (iv x3), .int (iv x4)])).length) Slot.unset).toArray = ls at hl ⊢
  have hl : lv_has ls 10 [(0, .ref (ad 11 0)), (1, .int (iv x1)), (2, .int (iv x2)), (3, .int (iv x3)), (4, .int (iv x4))] := hl
  have h : Hs D ct ad L φ N0 s.heap σ s.heap [] := h
  unfold wp_X11_makeLogs at hw
  refine j_iconst X dX11_makeLogs_0 ?_
  refine lv_istore (lv' := [(5, .int (iv 0)), (0, .ref (ad 11 0)), (1, .int (iv x1)), (2, .int (iv x2)), (3, .int (iv x3)), (4, .int (iv x4))]) X.1 X.2.1 dX11_makeLogs_1 hl (by decide) rfl (fun ls hl => ?_)
  refine j_iconst X dX11_makeLogs_3 ?_
  refine lv_istore (lv' := [(6, .int (iv 0)), (5, .int (iv 0)), (0, .ref (ad 11 0)), (1, .int (iv x1)), (2, .int (iv x2)), (3, .int (iv x3)), (4, .int (iv x4))]) X.1 X.2.1 dX11_makeLogs_4 hl (by decide) rfl (fun ls hl => ?_)
  refine j_iconst X dX11_makeLogs_6 ?_
  refine lv_istore (lv' := [(7, .int (iv 0)), (6, .int (iv 0)), (5, .int (iv 0)), (0, .ref (ad 11 0)), (1, .int (iv x1)), (2, .int (iv x2)), (3, .int (iv x3)), (4, .int (iv x4))]) X.1 X.2.1 dX11_makeLogs_7 hl (by decide) rfl (fun ls hl => ?_)
  exact hw.elim (fun n9 hw => lb_X11_makeLogs_9 n9 σ 0 x1 x2 x3 x4 0 0 0 ad L φ _ _ _ X Ext.rf hw h (lv_sub hl [3, 4, 5, 6, 7, 2, 1, 0] rfl))
end
