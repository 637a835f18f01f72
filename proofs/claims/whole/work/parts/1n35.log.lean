/-! Log's constructor, walked by program -/
section
variable {p : Program} {l : Launch} {e : Env} {s : State} {m : MethodId} {args : Array Value} {below : List Frame} {meth : Method} {c : Code} {D : va_G} {ct : Nat → ClassId} {ad : Nat → Nat → Nat} {L : List (Nat × Nat)} {φ : Nat → Nat → Nat → Bool} {N0 : Nat}
variable {Q : St → Prop}
theorem pd_X4_init : yX4_init.cls ≠ "java/lang/invoke/MethodHandle" ∧ yX4_init.cls ≠ "java/lang/invoke/VarHandle" ∧ (parseMethodDescriptor yX4_init.desc).map (fun d => d.parameters.length) = some 6 := by decide +kernel
set_option maxRecDepth 100000 in
set_option maxHeartbeats 4000000 in
theorem c_X4_init (l : Launch) (D : va_G) (ct : Nat → ClassId) (ad : Nat → Nat → Nat) (L : List (Nat × Nat)) (φ : Nat → Nat → Nat → Bool) (N0 : Nat) (σ : St) (j0 : Nat) (x1 : Int) (x2 : Int) (x3 : Int) (x4 : Int) (x5 : Int) (x6 : Int) (Q : St → Prop) (hm0 : (4, j0) ∈ L) (hφ0 : ∀ i, φ 4 j0 i = false) (hA0 : (35, j0) ∉ L ∧ (36, j0) ∉ L ∧ (37, j0) ∉ L ∧ (38, j0) ∉ L) (hw : wp_X4_init σ j0 x1 x2 x3 x4 x5 x6 Q) : Met l yX4_init (.code yX4_init cX4_init 8 none :: gw) ({ frames := 1, cells := 4, slots := 17, locals := 14 } : Room) (Pm D ct ad L φ N0 σ [.ref (ad 4 j0), .int (iv x1), .int (iv x2), .int (iv x3), .int (iv x4), .int (iv x5), .int (iv x6)]) (Qvw D ct N0 ad L Q) 4 17 (AA N0) := by
  refine m_of (by decide) (fun p e s m below meth c X hnm h => ?_)
  have hF := X.2.2.2.2.2.2.2.2.1
  have hl := lv_entry ([.ref (ad 4 j0), .int (iv x1), .int (iv x2), .int (iv x3), .int (iv x4), .int (iv x5), .int (iv x6)]) (n := 8) (Nat.le_of_ble_eq_true rfl)
  rw [lg_entry_eq]
  generalize (lg_sl ([.ref (ad 4 j0), .int (iv x1), .int (iv x2), .int (iv x3), .int (iv x4), .int (iv x5), .int (iv x6)]) ++ List.replicate (8 - (lg_sl ([.ref (ad 4 j0), .int (iv x1), .int (iv x2), .int (iv x3), .int (iv x4), .int (iv x5), .int (iv x6)])).length) Slot.unset).toArray = ls at hl ⊢
  have hl : lv_has ls 8 [(0, .ref (ad 4 j0)), (1, .int (iv x1)), (2, .int (iv x2)), (3, .int (iv x3)), (4, .int (iv x4)), (5, .int (iv x5)), (6, .int (iv x6))] := hl
  have h : Hs D ct ad L φ N0 s.heap σ s.heap [] := h
  generalize ([.ref (ad 4 j0), .int (iv x1), .int (iv x2), .int (iv x3), .int (iv x4), .int (iv x5), .int (iv x6)] : List Value).toArray = args9 at X ⊢
  unfold wp_X4_init at hw
  obtain ⟨hn35, hn36, hn37, hn38⟩ := hA0
  have f10 := hφ0 10
  have f11 := hφ0 11
  have f12 := hφ0 12
  have f13 := hφ0 13
  have hE : Ext ad L ad L := Ext.rf
  refine lv_aload_n X.1 X.2.1 dX4_init_0 rfl (lv_at hl 0 rfl) ?_
  refine W.objInit X.1 X.2.1 X.2.2.2.2.1 (X.2.2.2.2.2.2.1 _ kw_705) (X.2.2.2.2.2.2.1 _ kw_151) (X.2.2.2.2.2.2.1 _ kw_152) rfl (by rw [X.2.2.1]; exact hl.1) rfl dX4_init_1 (Nat.le_of_ble_eq_true rfl) (Nat.le_of_ble_eq_true rfl) ?_
  refine W.eq (g2 := F0 m 4 ls []) rfl ?_
  refine lv_aload_n X.1 X.2.1 dX4_init_4 rfl (lv_at hl 0 rfl) ?_
  refine j_iconst X dX4_init_5 ?_
  refine r_put (ci := 4) X inw_4 tyX4 tyX4_ok nmX4 h hm0 rfl rfl 6 (by decide) kw_717 rfl rfl rfl (Nat.le_of_ble_eq_true rfl) rfl rfl dX4_init_6 (fun H locs h => ?_)
  obtain ⟨σ_1, eσ_1⟩ : ∃ z : St, z = st σ 4 j0 6 0 := ⟨_, rfl⟩
  rw [← eσ_1] at h
  have hw := hw σ_1 eσ_1
  refine lv_aload_n X.1 X.2.1 dX4_init_9 rfl (lv_at hl 0 rfl) ?_
  refine j_iconst X dX4_init_10 ?_
  refine r_put (ci := 4) X inw_4 tyX4 tyX4_ok nmX4 h hm0 rfl rfl 7 (by decide) kw_718 rfl rfl rfl (Nat.le_of_ble_eq_true rfl) rfl rfl dX4_init_11 (fun H locs h => ?_)
  obtain ⟨σ_2, eσ_2⟩ : ∃ z : St, z = st σ_1 4 j0 7 0 := ⟨_, rfl⟩
  rw [← eσ_2] at h
  have hw := hw σ_2 eσ_2
  refine lv_aload_n X.1 X.2.1 dX4_init_14 rfl (lv_at hl 0 rfl) ?_
  refine j_iconst X dX4_init_15 ?_
  refine r_put (ci := 4) X inw_4 tyX4 tyX4_ok nmX4 h hm0 rfl rfl 8 (by decide) kw_720 rfl rfl rfl (Nat.le_of_ble_eq_true rfl) rfl rfl dX4_init_16 (fun H locs h => ?_)
  obtain ⟨σ_3, eσ_3⟩ : ∃ z : St, z = st σ_2 4 j0 8 (-1) := ⟨_, rfl⟩
  rw [← eσ_3] at h
  have hw := hw σ_3 eσ_3
  refine lv_aload_n X.1 X.2.1 dX4_init_19 rfl (lv_at hl 0 rfl) ?_
  refine j_iconst X dX4_init_20 ?_
  refine r_put (ci := 4) X inw_4 tyX4 tyX4_ok nmX4 h hm0 rfl rfl 9 (by decide) kw_722 rfl rfl rfl (Nat.le_of_ble_eq_true rfl) rfl rfl dX4_init_21 (fun H locs h => ?_)
  obtain ⟨σ_4, eσ_4⟩ : ∃ z : St, z = st σ_3 4 j0 9 0 := ⟨_, rfl⟩
  rw [← eσ_4] at h
  have hw := hw σ_4 eσ_4
  refine lv_aload_n X.1 X.2.1 dX4_init_24 rfl (lv_at hl 0 rfl) ?_
  refine j_iconst X dX4_init_25 ?_
  obtain ⟨g_5, hw⟩ := hw
  refine r_newA (K := 35) (n := j0) (N' := 4) X h (Or.inl rfl) hn35 f10 g_5 (by decide) rfl (by decide) kw_178 (fun _ _ => rfl) (Nat.le_of_ble_eq_true rfl) (Nat.le_of_ble_eq_true rfl) dX4_init_26 (fun ad L φ H hE1 hFn hm35 hs9 hms h => ?_)
  rw [← (hE1 4 j0 hm0).2] at hl
  rw [← (hE1 4 j0 hm0).2]
  have hm0 := (hE1 4 j0 hm0).1
  have hE := hE.tr hE1
  have hn36 : (36, j0) ∉ L := fun hq => (hms 36 j0 hq).elim hn36 (fun e9 => absurd e9.1 (by decide))
  have hn37 : (37, j0) ∉ L := fun hq => (hms 37 j0 hq).elim hn37 (fun e9 => absurd e9.1 (by decide))
  have hn38 : (38, j0) ∉ L := fun hq => (hms 38 j0 hq).elim hn38 (fun e9 => absurd e9.1 (by decide))
  have f10 := (congrFun (hs9 j0) 10).trans f10
  have f11 := (congrFun (hs9 j0) 11).trans f11
  have f12 := (congrFun (hs9 j0) 12).trans f12
  have f13 := (congrFun (hs9 j0) 13).trans f13
  have X := X.grow hFn
  have hF := hFn
  obtain ⟨σ_6, eσ_6⟩ : ∃ z : St, z = sta σ_4 35 j0 z0 := ⟨_, rfl⟩
  rw [← eσ_6] at h
  have hw := hw σ_6 eσ_6
  obtain ⟨g_7, hw⟩ := hw
  refine r_putR (K := 35) (i := 10) X hnm h hm0 rfl (by decide) (Nat.le_of_ble_eq_true rfl) kw_723 rfl rfl rfl rfl rfl g_7 dX4_init_28 (fun φ H locs hFn hp9 h => ?_)
  have f10 := (hp9 10).trans (if_pos rfl)
  have f11 := (hp9 11).trans ((if_neg (by decide)).trans f11)
  have f12 := (hp9 12).trans ((if_neg (by decide)).trans f12)
  have f13 := (hp9 13).trans ((if_neg (by decide)).trans f13)
  have X := X.grow hFn
  have hF := hFn
  refine lv_aload_n X.1 X.2.1 dX4_init_31 rfl (lv_at hl 0 rfl) ?_
  refine j_iconst X dX4_init_32 ?_
  obtain ⟨g_8, hw⟩ := hw
  refine r_newA (K := 36) (n := j0) (N' := 4) X h (Or.inr (Or.inl rfl)) hn36 f11 g_8 (by decide) rfl (by decide) kw_178 (fun _ _ => rfl) (Nat.le_of_ble_eq_true rfl) (Nat.le_of_ble_eq_true rfl) dX4_init_33 (fun ad L φ H hE1 hFn hm36 hs9 hms h => ?_)
  rw [← (hE1 4 j0 hm0).2] at hl
  rw [← (hE1 4 j0 hm0).2]
  have hm0 := (hE1 4 j0 hm0).1
  have hE := hE.tr hE1
  have hm35 := (hE1 35 j0 hm35).1
  have hn37 : (37, j0) ∉ L := fun hq => (hms 37 j0 hq).elim hn37 (fun e9 => absurd e9.1 (by decide))
  have hn38 : (38, j0) ∉ L := fun hq => (hms 38 j0 hq).elim hn38 (fun e9 => absurd e9.1 (by decide))
  have f10 := (congrFun (hs9 j0) 10).trans f10
  have f11 := (congrFun (hs9 j0) 11).trans f11
  have f12 := (congrFun (hs9 j0) 12).trans f12
  have f13 := (congrFun (hs9 j0) 13).trans f13
  have X := X.grow hFn
  have hF := hFn
  obtain ⟨σ_9, eσ_9⟩ : ∃ z : St, z = sta σ_6 36 j0 z0 := ⟨_, rfl⟩
  rw [← eσ_9] at h
  have hw := hw σ_9 eσ_9
  obtain ⟨g_10, hw⟩ := hw
  refine r_putR (K := 36) (i := 11) X hnm h hm0 rfl (by decide) (Nat.le_of_ble_eq_true rfl) kw_724 rfl rfl rfl rfl rfl g_10 dX4_init_35 (fun φ H locs hFn hp9 h => ?_)
  have f10 := (hp9 10).trans ((if_neg (by decide)).trans f10)
  have f11 := (hp9 11).trans (if_pos rfl)
  have f12 := (hp9 12).trans ((if_neg (by decide)).trans f12)
  have f13 := (hp9 13).trans ((if_neg (by decide)).trans f13)
  have X := X.grow hFn
  have hF := hFn
  refine lv_aload_n X.1 X.2.1 dX4_init_38 rfl (lv_at hl 0 rfl) ?_
  refine j_iconst X dX4_init_39 ?_
  obtain ⟨g_11, hw⟩ := hw
  refine r_newA (K := 37) (n := j0) (N' := 4) X h (Or.inr (Or.inr (Or.inl rfl))) hn37 f12 g_11 (by decide) rfl (by decide) kw_178 (fun _ _ => rfl) (Nat.le_of_ble_eq_true rfl) (Nat.le_of_ble_eq_true rfl) dX4_init_40 (fun ad L φ H hE1 hFn hm37 hs9 hms h => ?_)
  rw [← (hE1 4 j0 hm0).2] at hl
  rw [← (hE1 4 j0 hm0).2]
  have hm0 := (hE1 4 j0 hm0).1
  have hE := hE.tr hE1
  have hm35 := (hE1 35 j0 hm35).1
  have hm36 := (hE1 36 j0 hm36).1
  have hn38 : (38, j0) ∉ L := fun hq => (hms 38 j0 hq).elim hn38 (fun e9 => absurd e9.1 (by decide))
  have f10 := (congrFun (hs9 j0) 10).trans f10
  have f11 := (congrFun (hs9 j0) 11).trans f11
  have f12 := (congrFun (hs9 j0) 12).trans f12
  have f13 := (congrFun (hs9 j0) 13).trans f13
  have X := X.grow hFn
  have hF := hFn
  obtain ⟨σ_12, eσ_12⟩ : ∃ z : St, z = sta σ_9 37 j0 z0 := ⟨_, rfl⟩
  rw [← eσ_12] at h
  have hw := hw σ_12 eσ_12
  obtain ⟨g_13, hw⟩ := hw
  refine r_putR (K := 37) (i := 12) X hnm h hm0 rfl (by decide) (Nat.le_of_ble_eq_true rfl) kw_725 rfl rfl rfl rfl rfl g_13 dX4_init_42 (fun φ H locs hFn hp9 h => ?_)
  have f10 := (hp9 10).trans ((if_neg (by decide)).trans f10)
  have f11 := (hp9 11).trans ((if_neg (by decide)).trans f11)
  have f12 := (hp9 12).trans (if_pos rfl)
  have f13 := (hp9 13).trans ((if_neg (by decide)).trans f13)
  have X := X.grow hFn
  have hF := hFn
  refine lv_aload_n X.1 X.2.1 dX4_init_45 rfl (lv_at hl 0 rfl) ?_
  refine j_iconst X dX4_init_46 ?_
  obtain ⟨g_14, hw⟩ := hw
  refine r_newA (K := 38) (n := j0) (N' := 5) X h (Or.inr (Or.inr (Or.inr rfl))) hn38 f13 g_14 (by decide) rfl (by decide) kw_178 (fun _ _ => rfl) (Nat.le_of_ble_eq_true rfl) (Nat.le_of_ble_eq_true rfl) dX4_init_47 (fun ad L φ H hE1 hFn hm38 hs9 hms h => ?_)
  rw [← (hE1 4 j0 hm0).2] at hl
  rw [← (hE1 4 j0 hm0).2]
  have hm0 := (hE1 4 j0 hm0).1
  have hE := hE.tr hE1
  have hm35 := (hE1 35 j0 hm35).1
  have hm36 := (hE1 36 j0 hm36).1
  have hm37 := (hE1 37 j0 hm37).1
  have f10 := (congrFun (hs9 j0) 10).trans f10
  have f11 := (congrFun (hs9 j0) 11).trans f11
  have f12 := (congrFun (hs9 j0) 12).trans f12
  have f13 := (congrFun (hs9 j0) 13).trans f13
  have X := X.grow hFn
  have hF := hFn
  obtain ⟨σ_15, eσ_15⟩ : ∃ z : St, z = sta σ_12 38 j0 z0 := ⟨_, rfl⟩
  rw [← eσ_15] at h
  have hw := hw σ_15 eσ_15
  obtain ⟨g_16, hw⟩ := hw
  refine r_putR (K := 38) (i := 13) X hnm h hm0 rfl (by decide) (Nat.le_of_ble_eq_true rfl) kw_726 rfl rfl rfl rfl rfl g_16 dX4_init_49 (fun φ H locs hFn hp9 h => ?_)
  have f10 := (hp9 10).trans ((if_neg (by decide)).trans f10)
  have f11 := (hp9 11).trans ((if_neg (by decide)).trans f11)
  have f12 := (hp9 12).trans ((if_neg (by decide)).trans f12)
  have f13 := (hp9 13).trans (if_pos rfl)
  have X := X.grow hFn
  have hF := hFn
  refine lv_aload_n X.1 X.2.1 dX4_init_52 rfl (lv_at hl 0 rfl) ?_
  refine j_iconst X dX4_init_53 ?_
  refine r_put (ci := 4) X inw_4 tyX4 tyX4_ok nmX4 h hm0 rfl rfl 14 (by decide) kw_728 rfl rfl rfl (Nat.le_of_ble_eq_true rfl) rfl rfl dX4_init_54 (fun H locs h => ?_)
  obtain ⟨σ_17, eσ_17⟩ : ∃ z : St, z = st σ_15 4 j0 14 0 := ⟨_, rfl⟩
  rw [← eσ_17] at h
  have hw := hw σ_17 eσ_17
  refine lv_aload_n X.1 X.2.1 dX4_init_57 rfl (lv_at hl 0 rfl) ?_
  refine j_iconst X dX4_init_58 ?_
  refine r_put (ci := 4) X inw_4 tyX4 tyX4_ok nmX4 h hm0 rfl rfl 15 (by decide) kw_729 rfl rfl rfl (Nat.le_of_ble_eq_true rfl) rfl rfl dX4_init_59 (fun H locs h => ?_)
  obtain ⟨σ_18, eσ_18⟩ : ∃ z : St, z = st σ_17 4 j0 15 0 := ⟨_, rfl⟩
  rw [← eσ_18] at h
  have hw := hw σ_18 eσ_18
  refine lv_aload_n X.1 X.2.1 dX4_init_62 rfl (lv_at hl 0 rfl) ?_
  refine lv_iload_n X.1 X.2.1 dX4_init_63 rfl (lv_at hl 2 rfl) ?_
  refine r_put (ci := 4) X inw_4 tyX4 tyX4_ok nmX4 h hm0 rfl rfl 5 (by decide) kw_715 rfl rfl rfl (Nat.le_of_ble_eq_true rfl) rfl rfl dX4_init_64 (fun H locs h => ?_)
  obtain ⟨σ_19, eσ_19⟩ : ∃ z : St, z = st σ_18 4 j0 5 x2 := ⟨_, rfl⟩
  rw [← eσ_19] at h
  have hw := hw σ_19 eσ_19
  refine lv_aload_n X.1 X.2.1 dX4_init_67 rfl (lv_at hl 0 rfl) ?_
  refine lv_iload_n X.1 X.2.1 dX4_init_68 rfl (lv_at hl 3 rfl) ?_
  refine r_putF (ci := 4) X hnm inw_4 tyX4 tyX4_ok nmX4 h hm0 rfl rfl 0 (by decide) kw_706 rfl rfl rfl rfl (Nat.le_of_ble_eq_true rfl) rfl rfl dX4_init_69 (fun H locs h => ?_)
  obtain ⟨σ_20, eσ_20⟩ : ∃ z : St, z = st σ_19 4 j0 0 x3 := ⟨_, rfl⟩
  rw [← eσ_20] at h
  have hw := hw σ_20 eσ_20
  refine lv_aload_n X.1 X.2.1 dX4_init_72 rfl (lv_at hl 0 rfl) ?_
  refine lv_iload X.1 X.2.1 dX4_init_73 (lv_at hl 4 rfl) ?_
  refine r_putF (ci := 4) X hnm inw_4 tyX4 tyX4_ok nmX4 h hm0 rfl rfl 1 (by decide) kw_707 rfl rfl rfl rfl (Nat.le_of_ble_eq_true rfl) rfl rfl dX4_init_75 (fun H locs h => ?_)
  obtain ⟨σ_21, eσ_21⟩ : ∃ z : St, z = st σ_20 4 j0 1 x4 := ⟨_, rfl⟩
  rw [← eσ_21] at h
  have hw := hw σ_21 eσ_21
  refine lv_aload_n X.1 X.2.1 dX4_init_78 rfl (lv_at hl 0 rfl) ?_
  refine lv_iload X.1 X.2.1 dX4_init_79 (lv_at hl 5 rfl) ?_
  refine r_putF (ci := 4) X hnm inw_4 tyX4 tyX4_ok nmX4 h hm0 rfl rfl 2 (by decide) kw_709 rfl rfl rfl rfl (Nat.le_of_ble_eq_true rfl) rfl rfl dX4_init_81 (fun H locs h => ?_)
  obtain ⟨σ_22, eσ_22⟩ : ∃ z : St, z = st σ_21 4 j0 2 x5 := ⟨_, rfl⟩
  rw [← eσ_22] at h
  have hw := hw σ_22 eσ_22
  refine lv_aload_n X.1 X.2.1 dX4_init_84 rfl (lv_at hl 0 rfl) ?_
  refine lv_iload X.1 X.2.1 dX4_init_85 (lv_at hl 6 rfl) ?_
  refine r_putF (ci := 4) X hnm inw_4 tyX4 tyX4_ok nmX4 h hm0 rfl rfl 3 (by decide) kw_712 rfl rfl rfl rfl (Nat.le_of_ble_eq_true rfl) rfl rfl dX4_init_87 (fun H locs h => ?_)
  obtain ⟨σ_23, eσ_23⟩ : ∃ z : St, z = st σ_22 4 j0 3 x6 := ⟨_, rfl⟩
  rw [← eσ_23] at h
  have hw := hw σ_23 eσ_23
  refine lv_iload_n X.1 X.2.1 dX4_init_90 rfl (lv_at hl 1 rfl) ?_
  refine j_bipush X dX4_init_91 (by decide) ?_
  refine j_imul X dX4_init_93 ?_
  refine lv_iload_n X.1 X.2.1 dX4_init_94 rfl (lv_at hl 2 rfl) ?_
  refine j_iadd X dX4_init_95 ?_
  refine lv_iload X.1 X.2.1 dX4_init_96 (lv_at hl 5 rfl) ?_
  refine j_iconst X dX4_init_98 ?_
  refine j_iadd X dX4_init_99 ?_
  obtain ⟨g_24, g_25, g_26, g_27, hw⟩ := hw
  refine j_irem X g_24 g_25 g_26 g_27 dX4_init_100 ?_
  refine j_bind (fun v_28 ev_28 => ?_)
  have hw := hw v_28 ev_28
  refine lv_istore (lv' := [(7, .int (iv v_28)), (0, .ref (ad 4 j0)), (1, .int (iv x1)), (2, .int (iv x2)), (3, .int (iv x3)), (4, .int (iv x4)), (5, .int (iv x5)), (6, .int (iv x6))]) X.1 X.2.1 dX4_init_101 hl (by decide) rfl (fun ls hl => ?_)
  refine lv_aload_n X.1 X.2.1 dX4_init_103 rfl (lv_at hl 1 rfl) ?_
  refine lv_iload X.1 X.2.1 dX4_init_104 (lv_at hl 0 rfl) ?_
  refine lv_iload X.1 X.2.1 dX4_init_106 (lv_at hl 6 rfl) ?_
  obtain ⟨g_29, g_30, hwt, hwf⟩ := hw
  refine j_cmp_ge (tgt := 116) X g_29 g_30 dX4_init_108 (by decide) (fun c_35 => ?_) (fun c_35 => ?_)
  · have hw := hwt c_35
    refine j_iconst X dX4_init_116 ?_
    refine r_putF (ci := 4) X hnm inw_4 tyX4 tyX4_ok nmX4 h hm0 rfl rfl 4 (by decide) kw_713 rfl rfl rfl rfl (Nat.le_of_ble_eq_true rfl) rfl rfl dX4_init_117 (fun H locs h => ?_)
    obtain ⟨σ_31, eσ_31⟩ : ∃ z : St, z = st σ_23 4 j0 4 (-1) := ⟨_, rfl⟩
    rw [← eσ_31] at h
    have hw := hw σ_31 eσ_31
    obtain ⟨hFn, h⟩ := k_live hF h hm0 hm35 hm36 hm37 hm38 f10 f11 f12 f13
    have X := X.grow hFn
    obtain ⟨σ_32, eσ_32⟩ : ∃ z : St, z = st σ_31 50 4 j0 1 := ⟨_, rfl⟩
    rw [← eσ_32] at h
    have hw := hw σ_32 eσ_32
    refine W.widen (k := 4) (n := 17) (Nat.le_of_ble_eq_true rfl) (Nat.le_of_ble_eq_true rfl) ?_
    exact k_vrw X hE h hw dX4_init_120
  · have hw := hwf c_35
    refine lv_iload X.1 X.2.1 dX4_init_111 (lv_at hl 0 rfl) ?_
    refine lv_goto (tgt := 117) X.1 X.2.1 dX4_init_113 (by decide) ?_
    refine r_putF (ci := 4) X hnm inw_4 tyX4 tyX4_ok nmX4 h hm0 rfl rfl 4 (by decide) kw_713 rfl rfl rfl rfl (Nat.le_of_ble_eq_true rfl) rfl rfl dX4_init_117 (fun H locs h => ?_)
    obtain ⟨σ_33, eσ_33⟩ : ∃ z : St, z = st σ_23 4 j0 4 v_28 := ⟨_, rfl⟩
    rw [← eσ_33] at h
    have hw := hw σ_33 eσ_33
    obtain ⟨hFn, h⟩ := k_live hF h hm0 hm35 hm36 hm37 hm38 f10 f11 f12 f13
    have X := X.grow hFn
    obtain ⟨σ_34, eσ_34⟩ : ∃ z : St, z = st σ_33 50 4 j0 1 := ⟨_, rfl⟩
    rw [← eσ_34] at h
    have hw := hw σ_34 eσ_34
    refine W.widen (k := 4) (n := 17) (Nat.le_of_ble_eq_true rfl) (Nat.le_of_ble_eq_true rfl) ?_
    exact k_vrw X hE h hw dX4_init_120
end
