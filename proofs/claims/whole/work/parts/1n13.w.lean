/-! walked by program: 13.w -/
section
variable {p : Program} {l : Launch} {e : Env} {s : State} {m : MethodId} {args : Array Value} {below : List Frame} {meth : Method} {c : Code} {D : va_G} {ct : Nat → ClassId} {ad : Nat → Nat → Nat} {L : List (Nat × Nat)} {φ : Nat → Nat → Nat → Bool} {N0 : Nat}
variable {Q : Int → St → Prop}
theorem pd_X8_take : yX8_take.cls ≠ "java/lang/invoke/MethodHandle" ∧ yX8_take.cls ≠ "java/lang/invoke/VarHandle" ∧ (parseMethodDescriptor yX8_take.desc).map (fun d => d.parameters.length) = some 2 := by decide +kernel
set_option maxRecDepth 100000 in
set_option maxHeartbeats 4000000 in
theorem c_X8_take (l : Launch) (D : va_G) (ct : Nat → ClassId) (ad : Nat → Nat → Nat) (L : List (Nat × Nat)) (φ : Nat → Nat → Nat → Bool) (N0 : Nat) (σ : St) (x2 : Int) (Q : Int → St → Prop) (hw : wp_X8_take σ x2 Q) : Met l yX8_take (.code yX8_take cX8_take 3 (some .int) :: gw) ({ frames := 7, cells := 0, slots := 0, locals := 156 } : Room) (Pm D ct ad L φ N0 σ [.ref (ad 8 0), .ref (ad 9 0), .int (iv x2)]) (Qi D ct ad L φ N0 Q) 0 0 (AA N0) := by
  refine m_of (by decide) (fun p e s m below meth c X hnm h => ?_)
  have hF := X.2.2.2.2.2.2.2.2.1
  have hl := lv_entry ([.ref (ad 8 0), .ref (ad 9 0), .int (iv x2)]) (n := 3) (Nat.le_of_ble_eq_true rfl)
  rw [lg_entry_eq]
  generalize (lg_sl ([.ref (ad 8 0), .ref (ad 9 0), .int (iv x2)]) ++ List.replicate (3 - (lg_sl ([.ref (ad 8 0), .ref (ad 9 0), .int (iv x2)])).length) Slot.unset).toArray = ls at hl ⊢
  have hl : lv_has ls 3 [(0, .ref (ad 8 0)), (1, .ref (ad 9 0)), (2, .int (iv x2))] := hl
  have h : Hs D ct ad L φ N0 s.heap σ s.heap [] := h
  unfold wp_X8_take at hw
  refine lv_iload_n X.1 X.2.1 dX8_take_0 rfl (lv_at hl 2 rfl) ?_
  obtain ⟨g_1, hw0, hw1, hw2, hw3, hw4, hw5, hw6, hw7, hw8⟩ := hw
  by_cases c_30 : x2 = 1
  · have hw := hw0 c_30
    refine j_tin (v := 1) (tgt := 48) X g_1 c_30 dX8_take_1 (by decide) (by decide) rfl (by decide) ?_
    refine lv_aload_n X.1 X.2.1 dX8_take_48 rfl (lv_at hl 0 rfl) ?_
    refine lv_aload_n X.1 X.2.1 dX8_take_49 rfl (lv_at hl 1 rfl) ?_
    refine k_i h (r_V (C := RX8) (ci := 8) (As := [.ref (ad 9 0)]) (rest := []) X h (c_X8_takeVerb l D ct ad L φ N0 σ _ hw) rfl rfl ⟨Nat.le_of_ble_eq_true rfl, Nat.le_of_ble_eq_true rfl⟩ kw_1074 kw_1076 kw_27 kw_125 kw_1077 ⟨rfl, pd_X8_takeVerb⟩ (hF.1 8 rfl).1 rfl rfl rfl hl.1 rfl (Nat.le_of_ble_eq_true rfl) ⟨Nat.le_of_ble_eq_true rfl, Nat.le_of_ble_eq_true rfl⟩ dX8_take_50) (fun r_3 σ_2 H locs hw h => ?_)
    exact k_ir X rfl h hw dX8_take_53
  by_cases c_31 : x2 = 2
  · have hw := hw1 c_31
    refine j_tin (v := 2) (tgt := 54) X g_1 c_31 dX8_take_1 (by decide) (by decide) rfl (by decide) ?_
    refine lv_aload_n X.1 X.2.1 dX8_take_54 rfl (lv_at hl 0 rfl) ?_
    refine lv_aload_n X.1 X.2.1 dX8_take_55 rfl (lv_at hl 1 rfl) ?_
    refine lv_aload_n X.1 X.2.1 dX8_take_56 rfl (lv_at hl 1 rfl) ?_
    refine r_ldcS X X.2.2.2.2.2.2.2.1.2.2.2.2.2.2.2.1 dX8_take_57 ?_
    refine k_i h (r_V (C := RX9) (ci := 9) (As := [.ref (ct (2000 + 2))]) (rest := [.ref (ad 9 0), .ref (ad 8 0)]) X h (c_X9_wordIn l D ct ad L φ N0 σ 2 _ hw) rfl rfl ⟨Nat.le_of_ble_eq_true rfl, Nat.le_of_ble_eq_true rfl⟩ kw_1079 kw_1080 kw_1081 kw_124 kw_1082 ⟨rfl, pd_X9_wordIn⟩ (hF.1 9 rfl).1 rfl rfl rfl hl.1 rfl (Nat.le_of_ble_eq_true rfl) ⟨Nat.le_of_ble_eq_true rfl, Nat.le_of_ble_eq_true rfl⟩ dX8_take_59) (fun r_5 σ_4 H locs hw h => ?_)
    refine k_i h (r_V (C := RX8) (ci := 8) (As := [.ref (ad 9 0), .int (iv r_5)]) (rest := []) X h (c_X8_takeObject l D ct ad L φ N0 σ_4 r_5 _ hw) rfl rfl ⟨Nat.le_of_ble_eq_true rfl, Nat.le_of_ble_eq_true rfl⟩ kw_1117 kw_1119 kw_31 kw_125 kw_1120 ⟨rfl, pd_X8_takeObject⟩ (hF.1 8 rfl).1 rfl rfl rfl hl.1 rfl (Nat.le_of_ble_eq_true rfl) ⟨Nat.le_of_ble_eq_true rfl, Nat.le_of_ble_eq_true rfl⟩ dX8_take_62) (fun r_7 σ_6 H locs hw h => ?_)
    exact k_ir X rfl h hw dX8_take_65
  by_cases c_32 : x2 = 3
  · have hw := hw2 c_32
    refine j_tin (v := 3) (tgt := 66) X g_1 c_32 dX8_take_1 (by decide) (by decide) rfl (by decide) ?_
    refine lv_aload_n X.1 X.2.1 dX8_take_66 rfl (lv_at hl 0 rfl) ?_
    refine lv_aload_n X.1 X.2.1 dX8_take_67 rfl (lv_at hl 1 rfl) ?_
    refine lv_aload_n X.1 X.2.1 dX8_take_68 rfl (lv_at hl 1 rfl) ?_
    refine k_i h (r_V (C := RX9) (ci := 9) (As := []) (rest := [.ref (ad 9 0), .ref (ad 8 0)]) X h (c_X9_number l D ct ad L φ N0 σ _ hw) rfl rfl ⟨Nat.le_of_ble_eq_true rfl, Nat.le_of_ble_eq_true rfl⟩ kw_1121 kw_1122 kw_1123 kw_124 kw_1124 ⟨rfl, pd_X9_number⟩ (hF.1 9 rfl).1 rfl rfl rfl hl.1 rfl (Nat.le_of_ble_eq_true rfl) ⟨Nat.le_of_ble_eq_true rfl, Nat.le_of_ble_eq_true rfl⟩ dX8_take_69) (fun r_9 σ_8 H locs hw h => ?_)
    refine k_i h (r_V (C := RX8) (ci := 8) (As := [.ref (ad 9 0), .int (iv r_9)]) (rest := []) X h (c_X8_takeObject l D ct ad L φ N0 σ_8 r_9 _ hw) rfl rfl ⟨Nat.le_of_ble_eq_true rfl, Nat.le_of_ble_eq_true rfl⟩ kw_1117 kw_1119 kw_31 kw_125 kw_1120 ⟨rfl, pd_X8_takeObject⟩ (hF.1 8 rfl).1 rfl rfl rfl hl.1 rfl (Nat.le_of_ble_eq_true rfl) ⟨Nat.le_of_ble_eq_true rfl, Nat.le_of_ble_eq_true rfl⟩ dX8_take_72) (fun r_11 σ_10 H locs hw h => ?_)
    exact k_ir X rfl h hw dX8_take_75
  by_cases c_33 : x2 = 4
  · have hw := hw3 c_33
    refine j_tin (v := 4) (tgt := 76) X g_1 c_33 dX8_take_1 (by decide) (by decide) rfl (by decide) ?_
    refine lv_aload_n X.1 X.2.1 dX8_take_76 rfl (lv_at hl 1 rfl) ?_
    refine r_ldcS X X.2.2.2.2.2.2.2.1.2.2.2.2.2.2.2.2.1 dX8_take_77 ?_
    refine k_i h (r_V (C := RX9) (ci := 9) (As := [.ref (ct (2000 + 3))]) (rest := []) X h (c_X9_isWord l D ct ad L φ N0 σ 3 _ hw) rfl rfl ⟨Nat.le_of_ble_eq_true rfl, Nat.le_of_ble_eq_true rfl⟩ kw_1126 kw_1127 kw_1128 kw_124 kw_1129 ⟨rfl, pd_X9_isWord⟩ (hF.1 9 rfl).1 rfl rfl rfl hl.1 rfl (Nat.le_of_ble_eq_true rfl) ⟨Nat.le_of_ble_eq_true rfl, Nat.le_of_ble_eq_true rfl⟩ dX8_take_79) (fun r_13 σ_12 H locs hw h => ?_)
    obtain ⟨g_14, hwt, hwf⟩ := hw
    refine j_if_eq (tgt := 89) X g_14 dX8_take_82 (by decide) (fun c_17 => ?_) (fun c_17 => ?_)
    · have hw := hwt c_17
      refine lv_aload_n X.1 X.2.1 dX8_take_89 rfl (lv_at hl 0 rfl) ?_
      refine lv_aload_n X.1 X.2.1 dX8_take_90 rfl (lv_at hl 1 rfl) ?_
      refine j_iconst X dX8_take_91 ?_
      refine k_i h (r_V (C := RX8) (ci := 8) (As := [.ref (ad 9 0), .int (iv 1)]) (rest := []) X h (c_X8_refuse l D ct ad L φ N0 σ_12 1 _ hw) rfl rfl ⟨Nat.le_of_ble_eq_true rfl, Nat.le_of_ble_eq_true rfl⟩ kw_1108 kw_1110 kw_29 kw_125 kw_1111 ⟨rfl, pd_X8_refuse⟩ (hF.1 8 rfl).1 rfl rfl rfl hl.1 rfl (Nat.le_of_ble_eq_true rfl) ⟨Nat.le_of_ble_eq_true rfl, Nat.le_of_ble_eq_true rfl⟩ dX8_take_92) (fun r_16 σ_15 H locs hw h => ?_)
      exact k_ir X rfl h hw dX8_take_95
    · have hw := hwf c_17
      refine j_iconst X dX8_take_85 ?_
      refine lv_goto (tgt := 95) X.1 X.2.1 dX8_take_86 (by decide) ?_
      exact k_ir X rfl h hw dX8_take_95
  by_cases c_34 : x2 = 5
  · have hw := hw4 c_34
    refine j_tin (v := 5) (tgt := 96) X g_1 c_34 dX8_take_1 (by decide) (by decide) rfl (by decide) ?_
    refine lv_aload_n X.1 X.2.1 dX8_take_96 rfl (lv_at hl 0 rfl) ?_
    refine lv_aload_n X.1 X.2.1 dX8_take_97 rfl (lv_at hl 1 rfl) ?_
    refine k_i h (r_V (C := RX8) (ci := 8) (As := [.ref (ad 9 0)]) (rest := []) X h (c_X8_takeTerm l D ct ad L φ N0 σ _ hw) rfl rfl ⟨Nat.le_of_ble_eq_true rfl, Nat.le_of_ble_eq_true rfl⟩ kw_1130 kw_1132 kw_32 kw_125 kw_1133 ⟨rfl, pd_X8_takeTerm⟩ (hF.1 8 rfl).1 rfl rfl rfl hl.1 rfl (Nat.le_of_ble_eq_true rfl) ⟨Nat.le_of_ble_eq_true rfl, Nat.le_of_ble_eq_true rfl⟩ dX8_take_98) (fun r_19 σ_18 H locs hw h => ?_)
    exact k_ir X rfl h hw dX8_take_101
  by_cases c_35 : x2 = 6
  · have hw := hw5 c_35
    refine j_tin (v := 6) (tgt := 102) X g_1 c_35 dX8_take_1 (by decide) (by decide) rfl (by decide) ?_
    refine lv_aload_n X.1 X.2.1 dX8_take_102 rfl (lv_at hl 0 rfl) ?_
    refine lv_aload_n X.1 X.2.1 dX8_take_103 rfl (lv_at hl 1 rfl) ?_
    refine lv_aload_n X.1 X.2.1 dX8_take_104 rfl (lv_at hl 1 rfl) ?_
    refine r_ldcS X X.2.2.2.2.2.2.2.1.2.2.2.2.2.2.2.2.2.1 dX8_take_105 ?_
    refine k_i h (r_V (C := RX9) (ci := 9) (As := [.ref (ct (2000 + 5))]) (rest := [.ref (ad 9 0), .ref (ad 8 0)]) X h (c_X9_wordIn l D ct ad L φ N0 σ 5 _ hw) rfl rfl ⟨Nat.le_of_ble_eq_true rfl, Nat.le_of_ble_eq_true rfl⟩ kw_1079 kw_1080 kw_1081 kw_124 kw_1082 ⟨rfl, pd_X9_wordIn⟩ (hF.1 9 rfl).1 rfl rfl rfl hl.1 rfl (Nat.le_of_ble_eq_true rfl) ⟨Nat.le_of_ble_eq_true rfl, Nat.le_of_ble_eq_true rfl⟩ dX8_take_107) (fun r_21 σ_20 H locs hw h => ?_)
    refine k_i h (r_V (C := RX8) (ci := 8) (As := [.ref (ad 9 0), .int (iv r_21)]) (rest := []) X h (c_X8_takeWord l D ct ad L φ N0 σ_20 r_21 _ hw) rfl rfl ⟨Nat.le_of_ble_eq_true rfl, Nat.le_of_ble_eq_true rfl⟩ kw_1140 kw_1142 kw_34 kw_125 kw_1143 ⟨rfl, pd_X8_takeWord⟩ (hF.1 8 rfl).1 rfl rfl rfl hl.1 rfl (Nat.le_of_ble_eq_true rfl) ⟨Nat.le_of_ble_eq_true rfl, Nat.le_of_ble_eq_true rfl⟩ dX8_take_110) (fun r_23 σ_22 H locs hw h => ?_)
    exact k_ir X rfl h hw dX8_take_113
  by_cases c_36 : x2 = 7
  · have hw := hw6 c_36
    refine j_tin (v := 7) (tgt := 114) X g_1 c_36 dX8_take_1 (by decide) (by decide) rfl (by decide) ?_
    refine lv_aload_n X.1 X.2.1 dX8_take_114 rfl (lv_at hl 0 rfl) ?_
    refine lv_aload_n X.1 X.2.1 dX8_take_115 rfl (lv_at hl 1 rfl) ?_
    refine k_i h (r_V (C := RX8) (ci := 8) (As := [.ref (ad 9 0)]) (rest := []) X h (c_X8_takeRelation l D ct ad L φ N0 σ _ hw) rfl rfl ⟨Nat.le_of_ble_eq_true rfl, Nat.le_of_ble_eq_true rfl⟩ kw_1144 kw_1146 kw_35 kw_125 kw_1147 ⟨rfl, pd_X8_takeRelation⟩ (hF.1 8 rfl).1 rfl rfl rfl hl.1 rfl (Nat.le_of_ble_eq_true rfl) ⟨Nat.le_of_ble_eq_true rfl, Nat.le_of_ble_eq_true rfl⟩ dX8_take_116) (fun r_25 σ_24 H locs hw h => ?_)
    exact k_ir X rfl h hw dX8_take_119
  by_cases c_37 : x2 = 8
  · have hw := hw7 c_37
    refine j_tin (v := 8) (tgt := 120) X g_1 c_37 dX8_take_1 (by decide) (by decide) rfl (by decide) ?_
    refine lv_aload_n X.1 X.2.1 dX8_take_120 rfl (lv_at hl 0 rfl) ?_
    refine lv_aload_n X.1 X.2.1 dX8_take_121 rfl (lv_at hl 1 rfl) ?_
    refine k_i h (r_V (C := RX8) (ci := 8) (As := [.ref (ad 9 0)]) (rest := []) X h (c_X8_takeValue l D ct ad L φ N0 σ _ hw) rfl rfl ⟨Nat.le_of_ble_eq_true rfl, Nat.le_of_ble_eq_true rfl⟩ kw_1152 kw_1154 kw_36 kw_125 kw_1155 ⟨rfl, pd_X8_takeValue⟩ (hF.1 8 rfl).1 rfl rfl rfl hl.1 rfl (Nat.le_of_ble_eq_true rfl) ⟨Nat.le_of_ble_eq_true rfl, Nat.le_of_ble_eq_true rfl⟩ dX8_take_122) (fun r_27 σ_26 H locs hw h => ?_)
    exact k_ir X rfl h hw dX8_take_125
  have c_38 : x2 < 1 ∨ 8 < x2 := by omega
  have hw := hw8 c_38
  refine j_tout (tgt := 126) X g_1 c_38 dX8_take_1 (by decide) ?_
  refine lv_aload_n X.1 X.2.1 dX8_take_126 rfl (lv_at hl 0 rfl) ?_
  refine lv_aload_n X.1 X.2.1 dX8_take_127 rfl (lv_at hl 1 rfl) ?_
  refine k_i h (r_V (C := RX8) (ci := 8) (As := [.ref (ad 9 0)]) (rest := []) X h (c_X8_takeJoint l D ct ad L φ N0 σ _ hw) rfl rfl ⟨Nat.le_of_ble_eq_true rfl, Nat.le_of_ble_eq_true rfl⟩ kw_1156 kw_1158 kw_37 kw_125 kw_1159 ⟨rfl, pd_X8_takeJoint⟩ (hF.1 8 rfl).1 rfl rfl rfl hl.1 rfl (Nat.le_of_ble_eq_true rfl) ⟨Nat.le_of_ble_eq_true rfl, Nat.le_of_ble_eq_true rfl⟩ dX8_take_128) (fun r_29 σ_28 H locs hw h => ?_)
  exact k_ir X rfl h hw dX8_take_131
end
section
variable {p : Program} {l : Launch} {e : Env} {s : State} {m : MethodId} {args : Array Value} {below : List Frame} {meth : Method} {c : Code} {D : va_G} {ct : Nat → ClassId} {ad : Nat → Nat → Nat} {L : List (Nat × Nat)} {φ : Nat → Nat → Nat → Bool} {N0 : Nat}
variable {Q : St → Prop}
set_option maxRecDepth 100000 in
set_option maxHeartbeats 4000000 in
theorem lb_X8_readText_47 (X : Cx p s m meth c args cX8_readText 4 none RX8 D ct L φ N0) (σ : St) (x2 : Int) (H : Heap) (locs : List Loc) (ls : Array Slot) (hw : wp_X8_readText_47 Q σ x2) (h : Hs D ct ad L φ N0 s.heap σ H locs) (hl : lv_has ls 4 [(0, .ref (ad 8 0)), (1, .ref (ad 9 0)), (2, .int (iv x2))]) : W p l e ({ frames := 8, cells := 0, slots := 0, locals := 178 } : Room) s m args below meth c H locs 0 0 (MQ below (Qv D ct ad L φ N0 Q) args s 0 0 (AA N0)) (F0 m 47 ls []) := by
  have hF := X.2.2.2.2.2.2.2.2.1
  unfold wp_X8_readText_47 at hw
  refine lv_iload_n X.1 X.2.1 dX8_readText_47 rfl (lv_at hl 2 rfl) ?_
  obtain ⟨g_1, hwt, hwf⟩ := hw
  refine j_if_eq (tgt := 63) X g_1 dX8_readText_48 (by decide) (fun c_6 => ?_) (fun c_6 => ?_)
  · have hw := hwt c_6
    exact k_vr X h hw dX8_readText_63
  · have hw := hwf c_6
    refine lv_iload_n X.1 X.2.1 dX8_readText_51 rfl (lv_at hl 2 rfl) ?_
    refine j_iconst X dX8_readText_52 ?_
    obtain ⟨g_2, hwt, hwf⟩ := hw
    refine j_cmp_eq (tgt := 63) X g_2 ⟨by decide, by decide⟩ dX8_readText_53 (by decide) (fun c_5 => ?_) (fun c_5 => ?_)
    · have hw := hwt c_5
      exact k_vr X h hw dX8_readText_63
    · have hw := hwf c_5
      refine lv_aload_n X.1 X.2.1 dX8_readText_56 rfl (lv_at hl 0 rfl) ?_
      refine lv_aload_n X.1 X.2.1 dX8_readText_57 rfl (lv_at hl 1 rfl) ?_
      refine j_iconst X dX8_readText_58 ?_
      refine k_i h (r_V (C := RX8) (ci := 8) (As := [.ref (ad 9 0), .int (iv 1)]) (rest := []) X h (c_X8_refuse l D ct ad L φ N0 σ 1 _ hw) rfl rfl ⟨Nat.le_of_ble_eq_true rfl, Nat.le_of_ble_eq_true rfl⟩ kw_1108 kw_1110 kw_29 kw_125 kw_1111 ⟨rfl, pd_X8_refuse⟩ (hF.1 8 rfl).1 rfl rfl rfl hl.1 rfl (Nat.le_of_ble_eq_true rfl) ⟨Nat.le_of_ble_eq_true rfl, Nat.le_of_ble_eq_true rfl⟩ dX8_readText_59) (fun r_4 σ_3 H locs hw h => ?_)
      refine lv_pop X.1 X.2.1 dX8_readText_62 rfl ?_
      exact k_vr X h hw dX8_readText_63
set_option maxRecDepth 100000 in
set_option maxHeartbeats 4000000 in
theorem lb_X8_readText_41 (X : Cx p s m meth c args cX8_readText 4 none RX8 D ct L φ N0) {K8 : St → Int → Int → Prop} {K47 : St → Int → Prop} (hK8 : ∀ (σ : St) (x2 : Int) (x3 : Int) (H : Heap) (locs : List Loc) (ls : Array Slot), K8 σ x2 x3 → Hs D ct ad L φ N0 s.heap σ H locs → lv_has ls 4 [(0, .ref (ad 8 0)), (1, .ref (ad 9 0)), (2, .int (iv x2)), (3, .int (iv x3))] → W p l e ({ frames := 8, cells := 0, slots := 0, locals := 178 } : Room) s m args below meth c H locs 0 0 (MQ below (Qv D ct ad L φ N0 Q) args s 0 0 (AA N0)) (F0 m 8 ls [])) (hK47 : ∀ (σ : St) (x2 : Int) (H : Heap) (locs : List Loc) (ls : Array Slot), K47 σ x2 → Hs D ct ad L φ N0 s.heap σ H locs → lv_has ls 4 [(0, .ref (ad 8 0)), (1, .ref (ad 9 0)), (2, .int (iv x2))] → W p l e ({ frames := 8, cells := 0, slots := 0, locals := 178 } : Room) s m args below meth c H locs 0 0 (MQ below (Qv D ct ad L φ N0 Q) args s 0 0 (AA N0)) (F0 m 47 ls [])) (σ : St) (x2 : Int) (x3 : Int) (H : Heap) (locs : List Loc) (ls : Array Slot) (hw : wp_X8_readText_41 K8 K47 Q σ x2 x3) (h : Hs D ct ad L φ N0 s.heap σ H locs) (hl : lv_has ls 4 [(0, .ref (ad 8 0)), (1, .ref (ad 9 0)), (2, .int (iv x2)), (3, .int (iv x3))]) : W p l e ({ frames := 8, cells := 0, slots := 0, locals := 178 } : Room) s m args below meth c H locs 0 0 (MQ below (Qv D ct ad L φ N0 Q) args s 0 0 (AA N0)) (F0 m 41 ls []) := by
  have hF := X.2.2.2.2.2.2.2.2.1
  unfold wp_X8_readText_41 at hw
  refine j_iinc (kk9 := 3) (lv' := [(3, .int (iv (x3 + 1))), (0, .ref (ad 8 0)), (1, .ref (ad 9 0)), (2, .int (iv x2))]) X dX8_readText_41 hl rfl (by decide) rfl (fun ls hl => ?_)
  refine lv_goto (tgt := 8) X.1 X.2.1 dX8_readText_44 (by decide) ?_
  exact hK8 σ x2 (x3 + 1) _ _ _ hw h (lv_sub hl [1, 2, 3, 0] rfl)
set_option maxRecDepth 100000 in
set_option maxHeartbeats 4000000 in
theorem lb_X8_readText_8 (X : Cx p s m meth c args cX8_readText 4 none RX8 D ct L φ N0) {K47 : St → Int → Prop} (hK47 : ∀ (σ : St) (x2 : Int) (H : Heap) (locs : List Loc) (ls : Array Slot), K47 σ x2 → Hs D ct ad L φ N0 s.heap σ H locs → lv_has ls 4 [(0, .ref (ad 8 0)), (1, .ref (ad 9 0)), (2, .int (iv x2))] → W p l e ({ frames := 8, cells := 0, slots := 0, locals := 178 } : Room) s m args below meth c H locs 0 0 (MQ below (Qv D ct ad L φ N0 Q) args s 0 0 (AA N0)) (F0 m 47 ls [])) : ∀ (n : Nat) (σ : St) (x2 : Int) (x3 : Int) (H : Heap) (locs : List Loc) (ls : Array Slot), wp_X8_readText_8 K47 Q n σ x2 x3 → Hs D ct ad L φ N0 s.heap σ H locs → lv_has ls 4 [(0, .ref (ad 8 0)), (1, .ref (ad 9 0)), (2, .int (iv x2)), (3, .int (iv x3))] → W p l e ({ frames := 8, cells := 0, slots := 0, locals := 178 } : Room) s m args below meth c H locs 0 0 (MQ below (Qv D ct ad L φ N0 Q) args s 0 0 (AA N0)) (F0 m 8 ls []) := by
  have hF := X.2.2.2.2.2.2.2.2.1
  intro n
  induction n with
  | zero => intro σ x2 x3 H locs ls hw; exact hw.elim
  | succ n ih =>
    intro σ x2 x3 H locs ls hw h hl
    unfold wp_X8_readText_8 at hw
    refine lv_iload_n X.1 X.2.1 dX8_readText_8 rfl (lv_at hl 3 rfl) ?_
    refine j_sipush X dX8_readText_9 (by decide) ?_
    obtain ⟨g_7, hwt, hwf⟩ := hw
    refine j_cmp_ge (tgt := 47) X g_7 ⟨by decide, by decide⟩ dX8_readText_12 (by decide) (fun c_19 => ?_) (fun c_19 => ?_)
    · have hw := hwt c_19
      exact hK47 σ x2 _ _ _ hw h (lv_sub hl [0, 1, 2] rfl)
    · have hw := hwf c_19
      refine lv_aload_n X.1 X.2.1 dX8_readText_15 rfl (lv_at hl 1 rfl) ?_
      refine k_i h (r_V (C := RX9) (ci := 9) (As := []) (rest := []) X h (c_X9_isEnd l D ct ad L φ N0 σ _ hw) rfl rfl ⟨Nat.le_of_ble_eq_true rfl, Nat.le_of_ble_eq_true rfl⟩ kw_1066 kw_1067 kw_1068 kw_124 kw_1069 ⟨rfl, pd_X9_isEnd⟩ (hF.1 9 rfl).1 rfl rfl rfl hl.1 rfl (Nat.le_of_ble_eq_true rfl) ⟨Nat.le_of_ble_eq_true rfl, Nat.le_of_ble_eq_true rfl⟩ dX8_readText_16) (fun r_9 σ_8 H locs hw h => ?_)
      obtain ⟨g_10, hwt, hwf⟩ := hw
      refine j_if_ne (tgt := 47) X g_10 dX8_readText_19 (by decide) (fun c_18 => ?_) (fun c_18 => ?_)
      · have hw := hwt c_18
        exact hK47 σ_8 x2 _ _ _ hw h (lv_sub hl [0, 1, 2] rfl)
      · have hw := hwf c_18
        refine lv_iload_n X.1 X.2.1 dX8_readText_22 rfl (lv_at hl 2 rfl) ?_
        obtain ⟨g_11, hwt, hwf⟩ := hw
        refine j_if_eq (tgt := 47) X g_11 dX8_readText_23 (by decide) (fun c_17 => ?_) (fun c_17 => ?_)
        · have hw := hwt c_17
          exact hK47 σ_8 x2 _ _ _ hw h (lv_sub hl [0, 1, 2] rfl)
        · have hw := hwf c_17
          refine lv_aload_n X.1 X.2.1 dX8_readText_26 rfl (lv_at hl 0 rfl) ?_
          refine lv_aload_n X.1 X.2.1 dX8_readText_27 rfl (lv_at hl 1 rfl) ?_
          refine lv_iload_n X.1 X.2.1 dX8_readText_28 rfl (lv_at hl 2 rfl) ?_
          refine k_i h (r_V (C := RX8) (ci := 8) (As := [.ref (ad 9 0), .int (iv x2)]) (rest := []) X h (c_X8_take l D ct ad L φ N0 σ_8 x2 _ hw) rfl rfl ⟨Nat.le_of_ble_eq_true rfl, Nat.le_of_ble_eq_true rfl⟩ kw_1070 kw_1072 kw_26 kw_125 kw_1073 ⟨rfl, pd_X8_take⟩ (hF.1 8 rfl).1 rfl rfl rfl hl.1 rfl (Nat.le_of_ble_eq_true rfl) ⟨Nat.le_of_ble_eq_true rfl, Nat.le_of_ble_eq_true rfl⟩ dX8_readText_29) (fun r_13 σ_12 H locs hw h => ?_)
          refine lv_istore_n (lv' := [(2, .int (iv r_13)), (0, .ref (ad 8 0)), (1, .ref (ad 9 0)), (3, .int (iv x3))]) X.1 X.2.1 dX8_readText_32 rfl hl (by decide) rfl (fun ls hl => ?_)
          refine lv_iload_n X.1 X.2.1 dX8_readText_33 rfl (lv_at hl 0 rfl) ?_
          obtain ⟨g_14, hwt, hwf⟩ := hw
          refine j_if_eq (tgt := 41) X g_14 dX8_readText_34 (by decide) (fun c_16 => ?_) (fun c_16 => ?_)
          · have hw := hwt c_16
            exact lb_X8_readText_41 X ih hK47 σ_12 r_13 x3 _ _ _ hw h (lv_sub hl [1, 2, 0, 3] rfl)
          · have hw := hwf c_16
            refine lv_aload_n X.1 X.2.1 dX8_readText_37 rfl (lv_at hl 2 rfl) ?_
            refine k_v h (r_V (C := RX9) (ci := 9) (As := []) (rest := []) X h (c_X9_next l D ct ad L φ N0 σ_12 _ hw) rfl rfl ⟨Nat.le_of_ble_eq_true rfl, Nat.le_of_ble_eq_true rfl⟩ kw_1161 kw_962 kw_963 kw_124 kw_964 ⟨rfl, pd_X9_next⟩ (hF.1 9 rfl).1 rfl rfl rfl hl.1 rfl (Nat.le_of_ble_eq_true rfl) ⟨Nat.le_of_ble_eq_true rfl, Nat.le_of_ble_eq_true rfl⟩ dX8_readText_38) (fun σ_15 H locs hw h => ?_)
            exact lb_X8_readText_41 X ih hK47 σ_15 r_13 x3 _ _ _ hw h (lv_sub hl [1, 2, 0, 3] rfl)
theorem pd_X8_readText : yX8_readText.cls ≠ "java/lang/invoke/MethodHandle" ∧ yX8_readText.cls ≠ "java/lang/invoke/VarHandle" ∧ (parseMethodDescriptor yX8_readText.desc).map (fun d => d.parameters.length) = some 1 := by decide +kernel
set_option maxRecDepth 100000 in
set_option maxHeartbeats 4000000 in
theorem c_X8_readText (l : Launch) (D : va_G) (ct : Nat → ClassId) (ad : Nat → Nat → Nat) (L : List (Nat × Nat)) (φ : Nat → Nat → Nat → Bool) (N0 : Nat) (σ : St) (Q : St → Prop) (hw : wp_X8_readText σ Q) : Met l yX8_readText (.code yX8_readText cX8_readText 4 none :: gw) ({ frames := 8, cells := 0, slots := 0, locals := 178 } : Room) (Pm D ct ad L φ N0 σ [.ref (ad 8 0), .ref (ad 9 0)]) (Qv D ct ad L φ N0 Q) 0 0 (AA N0) := by
  refine m_of (by decide) (fun p e s m below meth c X hnm h => ?_)
  have hF := X.2.2.2.2.2.2.2.2.1
  have hl := lv_entry ([.ref (ad 8 0), .ref (ad 9 0)]) (n := 4) (Nat.le_of_ble_eq_true rfl)
  rw [lg_entry_eq]
  generalize (lg_sl ([.ref (ad 8 0), .ref (ad 9 0)]) ++ List.replicate (4 - (lg_sl ([.ref (ad 8 0), .ref (ad 9 0)])).length) Slot.unset).toArray = ls at hl ⊢
  have hl : lv_has ls 4 [(0, .ref (ad 8 0)), (1, .ref (ad 9 0))] := hl
  have h : Hs D ct ad L φ N0 s.heap σ s.heap [] := h
  unfold wp_X8_readText at hw
  refine j_iconst X dX8_readText_0 ?_
  refine lv_istore_n (lv' := [(2, .int (iv 1)), (0, .ref (ad 8 0)), (1, .ref (ad 9 0))]) X.1 X.2.1 dX8_readText_1 rfl hl (by decide) rfl (fun ls hl => ?_)
  refine lv_aload_n X.1 X.2.1 dX8_readText_2 rfl (lv_at hl 2 rfl) ?_
  refine k_v h (r_V (C := RX9) (ci := 9) (As := []) (rest := []) X h (c_X9_rewind l D ct ad L φ N0 σ _ hw) rfl rfl ⟨Nat.le_of_ble_eq_true rfl, Nat.le_of_ble_eq_true rfl⟩ kw_957 kw_958 kw_959 kw_124 kw_960 ⟨rfl, pd_X9_rewind⟩ (hF.1 9 rfl).1 rfl rfl rfl hl.1 rfl (Nat.le_of_ble_eq_true rfl) ⟨Nat.le_of_ble_eq_true rfl, Nat.le_of_ble_eq_true rfl⟩ dX8_readText_3) (fun σ_20 H locs hw h => ?_)
  refine j_iconst X dX8_readText_6 ?_
  refine lv_istore_n (lv' := [(3, .int (iv 0)), (2, .int (iv 1)), (0, .ref (ad 8 0)), (1, .ref (ad 9 0))]) X.1 X.2.1 dX8_readText_7 rfl hl (by decide) rfl (fun ls hl => ?_)
  exact hw.elim (fun n8 hw => lb_X8_readText_8 X (lb_X8_readText_47 X) n8 σ_20 1 0 _ _ _ hw h (lv_sub hl [2, 3, 1, 0] rfl))
end
section
variable {p : Program} {l : Launch} {e : Env} {s : State} {m : MethodId} {args : Array Value} {below : List Frame} {meth : Method} {c : Code} {D : va_G} {ct : Nat → ClassId} {ad : Nat → Nat → Nat} {L : List (Nat × Nat)} {φ : Nat → Nat → Nat → Bool} {N0 : Nat}
variable {Q : Int → St → Prop}
theorem pd_X8_tell : yX8_tell.cls ≠ "java/lang/invoke/MethodHandle" ∧ yX8_tell.cls ≠ "java/lang/invoke/VarHandle" ∧ (parseMethodDescriptor yX8_tell.desc).map (fun d => d.parameters.length) = some 2 := by decide +kernel
set_option maxRecDepth 100000 in
set_option maxHeartbeats 4000000 in
theorem c_X8_tell (l : Launch) (D : va_G) (ct : Nat → ClassId) (ad : Nat → Nat → Nat) (L : List (Nat × Nat)) (φ : Nat → Nat → Nat → Bool) (N0 : Nat) (σ : St) (x1 : Int) (Q : Int → St → Prop) (hw : wp_X8_tell σ x1 Q) : Met l yX8_tell (.code yX8_tell cX8_tell 3 (some .int) :: gw) ({ frames := 9, cells := 0, slots := 0, locals := 201 } : Room) (Pm D ct ad L φ N0 σ [.ref (ad 8 0), .int (iv x1), .ref (ad 9 0)]) (Qi D ct ad L φ N0 Q) 0 0 (AA N0) := by
  refine m_of (by decide) (fun p e s m below meth c X hnm h => ?_)
  have hF := X.2.2.2.2.2.2.2.2.1
  have hl := lv_entry ([.ref (ad 8 0), .int (iv x1), .ref (ad 9 0)]) (n := 3) (Nat.le_of_ble_eq_true rfl)
  rw [lg_entry_eq]
  generalize (lg_sl ([.ref (ad 8 0), .int (iv x1), .ref (ad 9 0)]) ++ List.replicate (3 - (lg_sl ([.ref (ad 8 0), .int (iv x1), .ref (ad 9 0)])).length) Slot.unset).toArray = ls at hl ⊢
  have hl : lv_has ls 3 [(0, .ref (ad 8 0)), (1, .int (iv x1)), (2, .ref (ad 9 0))] := hl
  have h : Hs D ct ad L φ N0 s.heap σ s.heap [] := h
  unfold wp_X8_tell at hw
  refine lv_aload_n X.1 X.2.1 dX8_tell_0 rfl (lv_at hl 0 rfl) ?_
  refine j_iconst X dX8_tell_1 ?_
  refine r_put (ci := 8) X inw_8 tyX8 tyX8_ok nmX8 h (hF.1 8 rfl).1 rfl rfl 11 (by decide) kw_294 rfl rfl rfl (Nat.le_of_ble_eq_true rfl) rfl rfl dX8_tell_2 (fun H locs h => ?_)
  obtain ⟨σ_1, eσ_1⟩ : ∃ z : St, z = st σ 8 0 11 0 := ⟨_, rfl⟩
  rw [← eσ_1] at h
  have hw := hw σ_1 eσ_1
  refine lv_aload_n X.1 X.2.1 dX8_tell_5 rfl (lv_at hl 0 rfl) ?_
  refine j_iconst X dX8_tell_6 ?_
  refine r_put (ci := 8) X inw_8 tyX8 tyX8_ok nmX8 h (hF.1 8 rfl).1 rfl rfl 12 (by decide) kw_295 rfl rfl rfl (Nat.le_of_ble_eq_true rfl) rfl rfl dX8_tell_7 (fun H locs h => ?_)
  obtain ⟨σ_2, eσ_2⟩ : ∃ z : St, z = st σ_1 8 0 12 (-1) := ⟨_, rfl⟩
  rw [← eσ_2] at h
  have hw := hw σ_2 eσ_2
  refine lv_aload_n X.1 X.2.1 dX8_tell_10 rfl (lv_at hl 0 rfl) ?_
  refine r_getR (ci := 8) X inw_8 h (hF.1 8 rfl).1 rfl rfl 0 (by decide) kw_281 rfl ((hF.1 8 rfl).2 0) dX8_tell_11 ?_
  refine lv_aload_n X.1 X.2.1 dX8_tell_14 rfl (lv_at hl 0 rfl) ?_
  refine r_get (ci := 8) X inw_8 h (hF.1 8 rfl).1 rfl rfl 10 (by decide) kw_292 rfl dX8_tell_15 ?_
  refine lv_iload_n X.1 X.2.1 dX8_tell_18 rfl (lv_at hl 1 rfl) ?_
  obtain ⟨g_3, g_4, hw⟩ := hw
  refine r_iast (n := 20) X h (hF.1 66 rfl).1 (fun _ => rfl) (by decide) g_3 g_4 rfl dX8_tell_19 (fun H locs h => ?_)
  obtain ⟨σ_5, eσ_5⟩ : ∃ z : St, z = st σ_2 66 0 (Int.toNat (σ_2 8 0 10)) x1 := ⟨_, rfl⟩
  rw [← eσ_5] at h
  have hw := hw σ_5 eσ_5
  refine lv_aload_n X.1 X.2.1 dX8_tell_20 rfl (lv_at hl 0 rfl) ?_
  refine r_getR (ci := 8) X inw_8 h (hF.1 8 rfl).1 rfl rfl 1 (by decide) kw_282 rfl ((hF.1 8 rfl).2 1) dX8_tell_21 ?_
  refine lv_aload_n X.1 X.2.1 dX8_tell_24 rfl (lv_at hl 0 rfl) ?_
  refine r_get (ci := 8) X inw_8 h (hF.1 8 rfl).1 rfl rfl 10 (by decide) kw_292 rfl dX8_tell_25 ?_
  refine j_iconst X dX8_tell_28 ?_
  obtain ⟨g_6, g_7, hw⟩ := hw
  refine r_iast (n := 20) X h (hF.1 67 rfl).1 (fun _ => rfl) (by decide) g_6 g_7 rfl dX8_tell_29 (fun H locs h => ?_)
  obtain ⟨σ_8, eσ_8⟩ : ∃ z : St, z = st σ_5 67 0 (Int.toNat (σ_5 8 0 10)) 0 := ⟨_, rfl⟩
  rw [← eσ_8] at h
  have hw := hw σ_8 eσ_8
  refine lv_aload_n X.1 X.2.1 dX8_tell_30 rfl (lv_at hl 0 rfl) ?_
  refine lv_aload_n X.1 X.2.1 dX8_tell_31 rfl (lv_at hl 2 rfl) ?_
  refine k_v h (r_V (C := RX8) (ci := 8) (As := [.ref (ad 9 0)]) (rest := []) X h (c_X8_readText l D ct ad L φ N0 σ_8 _ hw) rfl rfl ⟨Nat.le_of_ble_eq_true rfl, Nat.le_of_ble_eq_true rfl⟩ kw_953 kw_955 kw_23 kw_125 kw_956 ⟨rfl, pd_X8_readText⟩ (hF.1 8 rfl).1 rfl rfl rfl hl.1 rfl (Nat.le_of_ble_eq_true rfl) ⟨Nat.le_of_ble_eq_true rfl, Nat.le_of_ble_eq_true rfl⟩ dX8_tell_32) (fun σ_9 H locs hw h => ?_)
  refine lv_aload_n X.1 X.2.1 dX8_tell_35 rfl (lv_at hl 2 rfl) ?_
  refine j_iconst X dX8_tell_36 ?_
  refine r_putN (ci := 9) X inw_9 tyX9 tyX9_ok nmX9 h (hF.1 9 rfl).1 rfl rfl 1 (by decide) kw_258 rfl rfl rfl (Nat.le_of_ble_eq_true rfl) rfl rfl dX8_tell_37 (fun H locs h => ?_)
  obtain ⟨σ_10, eσ_10⟩ : ∃ z : St, z = st σ_9 9 0 1 0 := ⟨_, rfl⟩
  rw [← eσ_10] at h
  have hw := hw σ_10 eσ_10
  refine lv_aload_n X.1 X.2.1 dX8_tell_40 rfl (lv_at hl 0 rfl) ?_
  refine r_get (ci := 8) X inw_8 h (hF.1 8 rfl).1 rfl rfl 11 (by decide) kw_294 rfl dX8_tell_41 ?_
  obtain ⟨g_11, hwt, hwf⟩ := hw
  refine j_if_eq (tgt := 54) X g_11 dX8_tell_44 (by decide) (fun c_15 => ?_) (fun c_15 => ?_)
  · have hw := hwt c_15
    refine lv_aload_n X.1 X.2.1 dX8_tell_54 rfl (lv_at hl 0 rfl) ?_
    refine lv_dup X.1 X.2.1 dX8_tell_55 rfl ?_
    refine r_get (ci := 8) X inw_8 h (hF.1 8 rfl).1 rfl rfl 10 (by decide) kw_292 rfl dX8_tell_56 ?_
    refine j_iconst X dX8_tell_59 ?_
    refine j_iadd X dX8_tell_60 ?_
    refine r_put (ci := 8) X inw_8 tyX8 tyX8_ok nmX8 h (hF.1 8 rfl).1 rfl rfl 10 (by decide) kw_292 rfl rfl rfl (Nat.le_of_ble_eq_true rfl) rfl rfl dX8_tell_61 (fun H locs h => ?_)
    obtain ⟨σ_12, eσ_12⟩ : ∃ z : St, z = st σ_10 8 0 10 ((σ_10 8 0 10) + 1) := ⟨_, rfl⟩
    rw [← eσ_12] at h
    have hw := hw σ_12 eσ_12
    refine lv_aload_n X.1 X.2.1 dX8_tell_64 rfl (lv_at hl 0 rfl) ?_
    refine r_getR (ci := 8) X inw_8 h (hF.1 8 rfl).1 rfl rfl 1 (by decide) kw_282 rfl ((hF.1 8 rfl).2 1) dX8_tell_65 ?_
    refine lv_aload_n X.1 X.2.1 dX8_tell_68 rfl (lv_at hl 0 rfl) ?_
    refine r_get (ci := 8) X inw_8 h (hF.1 8 rfl).1 rfl rfl 10 (by decide) kw_292 rfl dX8_tell_69 ?_
    refine j_iconst X dX8_tell_72 ?_
    refine j_isub X dX8_tell_73 ?_
    obtain ⟨g_13, g_14, hw⟩ := hw
    refine r_iald (n := 20) X h (hF.1 67 rfl).1 rfl (by decide) g_13 g_14 dX8_tell_74 ?_
    exact k_ir X rfl h hw dX8_tell_75
  · have hw := hwf c_15
    refine j_iconst X dX8_tell_47 ?_
    refine lv_aload_n X.1 X.2.1 dX8_tell_48 rfl (lv_at hl 0 rfl) ?_
    refine r_get (ci := 8) X inw_8 h (hF.1 8 rfl).1 rfl rfl 11 (by decide) kw_294 rfl dX8_tell_49 ?_
    refine j_isub X dX8_tell_52 ?_
    exact k_ir X rfl h hw dX8_tell_53
end
section
variable {p : Program} {l : Launch} {e : Env} {s : State} {m : MethodId} {args : Array Value} {below : List Frame} {meth : Method} {c : Code} {D : va_G} {ct : Nat → ClassId} {ad : Nat → Nat → Nat} {L : List (Nat × Nat)} {φ : Nat → Nat → Nat → Bool} {N0 : Nat}
variable {Q : St → Prop}
set_option maxRecDepth 100000 in
set_option maxHeartbeats 4000000 in
theorem lb_X8_askOfDay_21 (X : Cx p s m meth c args cX8_askOfDay 3 none RX8 D ct L φ N0) (σ : St) (H : Heap) (locs : List Loc) (ls : Array Slot) (hw : wp_X8_askOfDay_21 Q σ) (h : Hs D ct ad L φ N0 s.heap σ H locs) (hl : lv_has ls 3 [(0, .ref (ad 8 0)), (1, .ref (ad 7 0))]) : W p l e ({ frames := 2, cells := 0, slots := 0, locals := 43 } : Room) s m args below meth c H locs 0 0 (MQ below (Qv D ct ad L φ N0 Q) args s 0 0 (AA N0)) (F0 m 21 ls []) := by
  have hF := X.2.2.2.2.2.2.2.2.1
  unfold wp_X8_askOfDay_21 at hw
  refine lv_aload_n X.1 X.2.1 dX8_askOfDay_21 rfl (lv_at hl 0 rfl) ?_
  refine r_getR (ci := 8) X inw_8 h (hF.1 8 rfl).1 rfl rfl 9 (by decide) kw_290 rfl ((hF.1 8 rfl).2 9) dX8_askOfDay_22 ?_
  refine j_iconst X dX8_askOfDay_25 ?_
  refine lv_aload_n X.1 X.2.1 dX8_askOfDay_26 rfl (lv_at hl 1 rfl) ?_
  refine k_i h (r_V (C := RX7) (ci := 7) (As := []) (rest := [.int (iv 4), .ref (ad 75 0)]) X h (c_X7_season l D ct ad L φ N0 σ _ hw) rfl rfl ⟨Nat.le_of_ble_eq_true rfl, Nat.le_of_ble_eq_true rfl⟩ kw_657 kw_658 kw_659 kw_121 kw_660 ⟨rfl, pd_X7_season⟩ (hF.1 7 rfl).1 rfl rfl rfl hl.1 rfl (Nat.le_of_ble_eq_true rfl) ⟨Nat.le_of_ble_eq_true rfl, Nat.le_of_ble_eq_true rfl⟩ dX8_askOfDay_27) (fun r_2 σ_1 H locs hw h => ?_)
  refine r_iast (n := 13) X h (hF.1 75 rfl).1 (fun _ => rfl) (by decide) (by decide) (by decide) rfl dX8_askOfDay_30 (fun H locs h => ?_)
  obtain ⟨σ_3, eσ_3⟩ : ∃ z : St, z = st σ_1 75 0 (Int.toNat 4) r_2 := ⟨_, rfl⟩
  rw [← eσ_3] at h
  have hw := hw σ_3 eσ_3
  refine lv_aload_n X.1 X.2.1 dX8_askOfDay_31 rfl (lv_at hl 0 rfl) ?_
  refine r_getR (ci := 8) X inw_8 h (hF.1 8 rfl).1 rfl rfl 9 (by decide) kw_290 rfl ((hF.1 8 rfl).2 9) dX8_askOfDay_32 ?_
  refine j_iconst X dX8_askOfDay_35 ?_
  refine lv_aload_n X.1 X.2.1 dX8_askOfDay_36 rfl (lv_at hl 1 rfl) ?_
  refine r_getN (ci := 7) X inw_7 h (hF.1 7 rfl).1 rfl rfl 3 (by decide) kw_165 rfl dX8_askOfDay_37 ?_
  refine r_iast (n := 13) X h (hF.1 75 rfl).1 (fun _ => rfl) (by decide) (by decide) (by decide) rfl dX8_askOfDay_40 (fun H locs h => ?_)
  obtain ⟨σ_4, eσ_4⟩ : ∃ z : St, z = st σ_3 75 0 (Int.toNat 5) (σ_3 7 0 3) := ⟨_, rfl⟩
  rw [← eσ_4] at h
  have hw := hw σ_4 eσ_4
  refine lv_aload_n X.1 X.2.1 dX8_askOfDay_41 rfl (lv_at hl 0 rfl) ?_
  refine r_getR (ci := 8) X inw_8 h (hF.1 8 rfl).1 rfl rfl 9 (by decide) kw_290 rfl ((hF.1 8 rfl).2 9) dX8_askOfDay_42 ?_
  refine j_bipush X dX8_askOfDay_45 (by decide) ?_
  refine lv_aload_n X.1 X.2.1 dX8_askOfDay_47 rfl (lv_at hl 1 rfl) ?_
  refine j_iconst X dX8_askOfDay_48 ?_
  refine k_i h (r_V (C := RX7) (ci := 7) (As := [.int (iv 0)]) (rest := [.int (iv 6), .ref (ad 75 0)]) X h (c_X7_now l D ct ad L φ N0 σ_4 0 _ hw) rfl rfl ⟨Nat.le_of_ble_eq_true rfl, Nat.le_of_ble_eq_true rfl⟩ kw_661 kw_662 kw_663 kw_121 kw_664 ⟨rfl, pd_X7_now⟩ (hF.1 7 rfl).1 rfl rfl rfl hl.1 rfl (Nat.le_of_ble_eq_true rfl) ⟨Nat.le_of_ble_eq_true rfl, Nat.le_of_ble_eq_true rfl⟩ dX8_askOfDay_49) (fun r_6 σ_5 H locs hw h => ?_)
  refine r_iast (n := 13) X h (hF.1 75 rfl).1 (fun _ => rfl) (by decide) (by decide) (by decide) rfl dX8_askOfDay_52 (fun H locs h => ?_)
  obtain ⟨σ_7, eσ_7⟩ : ∃ z : St, z = st σ_5 75 0 (Int.toNat 6) r_6 := ⟨_, rfl⟩
  rw [← eσ_7] at h
  have hw := hw σ_7 eσ_7
  refine lv_aload_n X.1 X.2.1 dX8_askOfDay_53 rfl (lv_at hl 0 rfl) ?_
  refine r_getR (ci := 8) X inw_8 h (hF.1 8 rfl).1 rfl rfl 9 (by decide) kw_290 rfl ((hF.1 8 rfl).2 9) dX8_askOfDay_54 ?_
  refine j_bipush X dX8_askOfDay_57 (by decide) ?_
  refine lv_aload_n X.1 X.2.1 dX8_askOfDay_59 rfl (lv_at hl 1 rfl) ?_
  refine j_iconst X dX8_askOfDay_60 ?_
  refine k_i h (r_V (C := RX7) (ci := 7) (As := [.int (iv 1)]) (rest := [.int (iv 7), .ref (ad 75 0)]) X h (c_X7_now l D ct ad L φ N0 σ_7 1 _ hw) rfl rfl ⟨Nat.le_of_ble_eq_true rfl, Nat.le_of_ble_eq_true rfl⟩ kw_661 kw_662 kw_663 kw_121 kw_664 ⟨rfl, pd_X7_now⟩ (hF.1 7 rfl).1 rfl rfl rfl hl.1 rfl (Nat.le_of_ble_eq_true rfl) ⟨Nat.le_of_ble_eq_true rfl, Nat.le_of_ble_eq_true rfl⟩ dX8_askOfDay_61) (fun r_9 σ_8 H locs hw h => ?_)
  refine r_iast (n := 13) X h (hF.1 75 rfl).1 (fun _ => rfl) (by decide) (by decide) (by decide) rfl dX8_askOfDay_64 (fun H locs h => ?_)
  obtain ⟨σ_10, eσ_10⟩ : ∃ z : St, z = st σ_8 75 0 (Int.toNat 7) r_9 := ⟨_, rfl⟩
  rw [← eσ_10] at h
  have hw := hw σ_10 eσ_10
  refine lv_aload_n X.1 X.2.1 dX8_askOfDay_65 rfl (lv_at hl 0 rfl) ?_
  refine r_getR (ci := 8) X inw_8 h (hF.1 8 rfl).1 rfl rfl 9 (by decide) kw_290 rfl ((hF.1 8 rfl).2 9) dX8_askOfDay_66 ?_
  refine j_bipush X dX8_askOfDay_69 (by decide) ?_
  refine lv_aload_n X.1 X.2.1 dX8_askOfDay_71 rfl (lv_at hl 1 rfl) ?_
  refine j_iconst X dX8_askOfDay_72 ?_
  refine k_i h (r_V (C := RX7) (ci := 7) (As := [.int (iv 2)]) (rest := [.int (iv 8), .ref (ad 75 0)]) X h (c_X7_now l D ct ad L φ N0 σ_10 2 _ hw) rfl rfl ⟨Nat.le_of_ble_eq_true rfl, Nat.le_of_ble_eq_true rfl⟩ kw_661 kw_662 kw_663 kw_121 kw_664 ⟨rfl, pd_X7_now⟩ (hF.1 7 rfl).1 rfl rfl rfl hl.1 rfl (Nat.le_of_ble_eq_true rfl) ⟨Nat.le_of_ble_eq_true rfl, Nat.le_of_ble_eq_true rfl⟩ dX8_askOfDay_73) (fun r_12 σ_11 H locs hw h => ?_)
  refine r_iast (n := 13) X h (hF.1 75 rfl).1 (fun _ => rfl) (by decide) (by decide) (by decide) rfl dX8_askOfDay_76 (fun H locs h => ?_)
  obtain ⟨σ_13, eσ_13⟩ : ∃ z : St, z = st σ_11 75 0 (Int.toNat 8) r_12 := ⟨_, rfl⟩
  rw [← eσ_13] at h
  have hw := hw σ_13 eσ_13
  exact k_vr X h hw dX8_askOfDay_77
set_option maxRecDepth 100000 in
set_option maxHeartbeats 4000000 in
theorem lb_X8_askOfDay_2 (X : Cx p s m meth c args cX8_askOfDay 3 none RX8 D ct L φ N0) {K21 : St → Prop} (hK21 : ∀ (σ : St) (H : Heap) (locs : List Loc) (ls : Array Slot), K21 σ → Hs D ct ad L φ N0 s.heap σ H locs → lv_has ls 3 [(0, .ref (ad 8 0)), (1, .ref (ad 7 0))] → W p l e ({ frames := 2, cells := 0, slots := 0, locals := 43 } : Room) s m args below meth c H locs 0 0 (MQ below (Qv D ct ad L φ N0 Q) args s 0 0 (AA N0)) (F0 m 21 ls [])) : ∀ (n : Nat) (σ : St) (x2 : Int) (H : Heap) (locs : List Loc) (ls : Array Slot), wp_X8_askOfDay_2 K21 Q n σ x2 → Hs D ct ad L φ N0 s.heap σ H locs → lv_has ls 3 [(0, .ref (ad 8 0)), (1, .ref (ad 7 0)), (2, .int (iv x2))] → W p l e ({ frames := 2, cells := 0, slots := 0, locals := 43 } : Room) s m args below meth c H locs 0 0 (MQ below (Qv D ct ad L φ N0 Q) args s 0 0 (AA N0)) (F0 m 2 ls []) := by
  have hF := X.2.2.2.2.2.2.2.2.1
  intro n
  induction n with
  | zero => intro σ x2 H locs ls hw; exact hw.elim
  | succ n ih =>
    intro σ x2 H locs ls hw h hl
    unfold wp_X8_askOfDay_2 at hw
    refine lv_iload_n X.1 X.2.1 dX8_askOfDay_2 rfl (lv_at hl 2 rfl) ?_
    refine j_bipush X dX8_askOfDay_3 (by decide) ?_
    obtain ⟨g_14, hwt, hwf⟩ := hw
    refine j_cmp_ge (tgt := 21) X g_14 ⟨by decide, by decide⟩ dX8_askOfDay_5 (by decide) (fun c_18 => ?_) (fun c_18 => ?_)
    · have hw := hwt c_18
      exact hK21 σ _ _ _ hw h (lv_sub hl [0, 1] rfl)
    · have hw := hwf c_18
      refine lv_aload_n X.1 X.2.1 dX8_askOfDay_8 rfl (lv_at hl 0 rfl) ?_
      refine r_getR (ci := 8) X inw_8 h (hF.1 8 rfl).1 rfl rfl 9 (by decide) kw_290 rfl ((hF.1 8 rfl).2 9) dX8_askOfDay_9 ?_
      refine lv_iload_n X.1 X.2.1 dX8_askOfDay_12 rfl (lv_at hl 2 rfl) ?_
      refine j_iconst X dX8_askOfDay_13 ?_
      obtain ⟨g_15, g_16, hw⟩ := hw
      refine r_iast (n := 13) X h (hF.1 75 rfl).1 (fun _ => rfl) (by decide) g_15 g_16 rfl dX8_askOfDay_14 (fun H locs h => ?_)
      obtain ⟨σ_17, eσ_17⟩ : ∃ z : St, z = st σ 75 0 (Int.toNat x2) 0 := ⟨_, rfl⟩
      rw [← eσ_17] at h
      have hw := hw σ_17 eσ_17
      refine j_iinc (kk9 := 2) (lv' := [(2, .int (iv (x2 + 1))), (0, .ref (ad 8 0)), (1, .ref (ad 7 0))]) X dX8_askOfDay_15 hl rfl (by decide) rfl (fun ls hl => ?_)
      refine lv_goto (tgt := 2) X.1 X.2.1 dX8_askOfDay_18 (by decide) ?_
      exact ih σ_17 (x2 + 1) _ _ _ hw h (lv_sub hl [1, 2, 0] rfl)
theorem pd_X8_askOfDay : yX8_askOfDay.cls ≠ "java/lang/invoke/MethodHandle" ∧ yX8_askOfDay.cls ≠ "java/lang/invoke/VarHandle" ∧ (parseMethodDescriptor yX8_askOfDay.desc).map (fun d => d.parameters.length) = some 1 := by decide +kernel
set_option maxRecDepth 100000 in
set_option maxHeartbeats 4000000 in
theorem c_X8_askOfDay (l : Launch) (D : va_G) (ct : Nat → ClassId) (ad : Nat → Nat → Nat) (L : List (Nat × Nat)) (φ : Nat → Nat → Nat → Bool) (N0 : Nat) (σ : St) (Q : St → Prop) (hw : wp_X8_askOfDay σ Q) : Met l yX8_askOfDay (.code yX8_askOfDay cX8_askOfDay 3 none :: gw) ({ frames := 2, cells := 0, slots := 0, locals := 43 } : Room) (Pm D ct ad L φ N0 σ [.ref (ad 8 0), .ref (ad 7 0)]) (Qv D ct ad L φ N0 Q) 0 0 (AA N0) := by
  refine m_of (by decide) (fun p e s m below meth c X hnm h => ?_)
  have hF := X.2.2.2.2.2.2.2.2.1
  have hl := lv_entry ([.ref (ad 8 0), .ref (ad 7 0)]) (n := 3) (Nat.le_of_ble_eq_true rfl)
  rw [lg_entry_eq]
  generalize (lg_sl ([.ref (ad 8 0), .ref (ad 7 0)]) ++ List.replicate (3 - (lg_sl ([.ref (ad 8 0), .ref (ad 7 0)])).length) Slot.unset).toArray = ls at hl ⊢
  have hl : lv_has ls 3 [(0, .ref (ad 8 0)), (1, .ref (ad 7 0))] := hl
  have h : Hs D ct ad L φ N0 s.heap σ s.heap [] := h
  unfold wp_X8_askOfDay at hw
  refine j_iconst X dX8_askOfDay_0 ?_
  refine lv_istore_n (lv' := [(2, .int (iv 0)), (0, .ref (ad 8 0)), (1, .ref (ad 7 0))]) X.1 X.2.1 dX8_askOfDay_1 rfl hl (by decide) rfl (fun ls hl => ?_)
  exact hw.elim (fun n2 hw => lb_X8_askOfDay_2 X (lb_X8_askOfDay_21 X) n2 σ 0 _ _ _ hw h (lv_sub hl [1, 2, 0] rfl))
end
section
variable {p : Program} {l : Launch} {e : Env} {s : State} {m : MethodId} {args : Array Value} {below : List Frame} {meth : Method} {c : Code} {D : va_G} {ct : Nat → ClassId} {ad : Nat → Nat → Nat} {L : List (Nat × Nat)} {φ : Nat → Nat → Nat → Bool} {N0 : Nat}
variable {Q : St → Prop}
theorem pd_X8_askOfCell : yX8_askOfCell.cls ≠ "java/lang/invoke/MethodHandle" ∧ yX8_askOfCell.cls ≠ "java/lang/invoke/VarHandle" ∧ (parseMethodDescriptor yX8_askOfCell.desc).map (fun d => d.parameters.length) = some 2 := by decide +kernel
set_option maxRecDepth 100000 in
set_option maxHeartbeats 4000000 in
theorem c_X8_askOfCell (l : Launch) (D : va_G) (ct : Nat → ClassId) (ad : Nat → Nat → Nat) (L : List (Nat × Nat)) (φ : Nat → Nat → Nat → Bool) (N0 : Nat) (σ : St) (x2 : Int) (Q : St → Prop) (hw : wp_X8_askOfCell σ x2 Q) : Met l yX8_askOfCell (.code yX8_askOfCell cX8_askOfCell 3 none :: gw) ({ frames := 3, cells := 0, slots := 0, locals := 62 } : Room) (Pm D ct ad L φ N0 σ [.ref (ad 8 0), .ref (ad 3 0), .int (iv x2)]) (Qv D ct ad L φ N0 Q) 0 0 (AA N0) := by
  refine m_of (by decide) (fun p e s m below meth c X hnm h => ?_)
  have hF := X.2.2.2.2.2.2.2.2.1
  have hl := lv_entry ([.ref (ad 8 0), .ref (ad 3 0), .int (iv x2)]) (n := 3) (Nat.le_of_ble_eq_true rfl)
  rw [lg_entry_eq]
  generalize (lg_sl ([.ref (ad 8 0), .ref (ad 3 0), .int (iv x2)]) ++ List.replicate (3 - (lg_sl ([.ref (ad 8 0), .ref (ad 3 0), .int (iv x2)])).length) Slot.unset).toArray = ls at hl ⊢
  have hl : lv_has ls 3 [(0, .ref (ad 8 0)), (1, .ref (ad 3 0)), (2, .int (iv x2))] := hl
  have h : Hs D ct ad L φ N0 s.heap σ s.heap [] := h
  unfold wp_X8_askOfCell at hw
  refine lv_aload_n X.1 X.2.1 dX8_askOfCell_0 rfl (lv_at hl 0 rfl) ?_
  refine r_getR (ci := 8) X inw_8 h (hF.1 8 rfl).1 rfl rfl 9 (by decide) kw_290 rfl ((hF.1 8 rfl).2 9) dX8_askOfCell_1 ?_
  refine j_iconst X dX8_askOfCell_4 ?_
  refine lv_iload_n X.1 X.2.1 dX8_askOfCell_5 rfl (lv_at hl 2 rfl) ?_
  refine r_iast (n := 13) X h (hF.1 75 rfl).1 (fun _ => rfl) (by decide) (by decide) (by decide) rfl dX8_askOfCell_6 (fun H locs h => ?_)
  obtain ⟨σ_1, eσ_1⟩ : ∃ z : St, z = st σ 75 0 (Int.toNat 0) x2 := ⟨_, rfl⟩
  rw [← eσ_1] at h
  have hw := hw σ_1 eσ_1
  refine lv_aload_n X.1 X.2.1 dX8_askOfCell_7 rfl (lv_at hl 0 rfl) ?_
  refine r_getR (ci := 8) X inw_8 h (hF.1 8 rfl).1 rfl rfl 9 (by decide) kw_290 rfl ((hF.1 8 rfl).2 9) dX8_askOfCell_8 ?_
  refine j_iconst X dX8_askOfCell_11 ?_
  refine lv_aload_n X.1 X.2.1 dX8_askOfCell_12 rfl (lv_at hl 1 rfl) ?_
  refine r_getRN (ci := 3) X inw_3 h (hF.1 3 rfl).1 rfl rfl 0 (by decide) kw_188 rfl ((hF.1 3 rfl).2 0) dX8_askOfCell_13 ?_
  refine lv_iload_n X.1 X.2.1 dX8_askOfCell_16 rfl (lv_at hl 2 rfl) ?_
  obtain ⟨g_2, g_3, hw⟩ := hw
  refine r_iald (n := 64) X h (hF.1 28 rfl).1 rfl (by decide) g_2 g_3 dX8_askOfCell_17 ?_
  refine r_iast (n := 13) X h (hF.1 75 rfl).1 (fun _ => rfl) (by decide) (by decide) (by decide) rfl dX8_askOfCell_18 (fun H locs h => ?_)
  obtain ⟨σ_4, eσ_4⟩ : ∃ z : St, z = st σ_1 75 0 (Int.toNat 1) (σ_1 28 0 (Int.toNat x2)) := ⟨_, rfl⟩
  rw [← eσ_4] at h
  have hw := hw σ_4 eσ_4
  refine lv_aload_n X.1 X.2.1 dX8_askOfCell_19 rfl (lv_at hl 0 rfl) ?_
  refine r_getR (ci := 8) X inw_8 h (hF.1 8 rfl).1 rfl rfl 9 (by decide) kw_290 rfl ((hF.1 8 rfl).2 9) dX8_askOfCell_20 ?_
  refine j_bipush X dX8_askOfCell_23 (by decide) ?_
  refine lv_aload_n X.1 X.2.1 dX8_askOfCell_25 rfl (lv_at hl 1 rfl) ?_
  refine lv_iload_n X.1 X.2.1 dX8_askOfCell_26 rfl (lv_at hl 2 rfl) ?_
  refine k_i h (r_V (C := RX3) (ci := 3) (As := [.int (iv x2)]) (rest := [.int (iv 9), .ref (ad 75 0)]) X h (c_X3_far l D ct ad L φ N0 σ_4 x2 _ hw) rfl rfl ⟨Nat.le_of_ble_eq_true rfl, Nat.le_of_ble_eq_true rfl⟩ kw_669 kw_582 kw_583 kw_122 kw_584 ⟨rfl, pd_X3_far⟩ (hF.1 3 rfl).1 rfl rfl rfl hl.1 rfl (Nat.le_of_ble_eq_true rfl) ⟨Nat.le_of_ble_eq_true rfl, Nat.le_of_ble_eq_true rfl⟩ dX8_askOfCell_27) (fun r_6 σ_5 H locs hw h => ?_)
  refine r_iast (n := 13) X h (hF.1 75 rfl).1 (fun _ => rfl) (by decide) (by decide) (by decide) rfl dX8_askOfCell_30 (fun H locs h => ?_)
  obtain ⟨σ_7, eσ_7⟩ : ∃ z : St, z = st σ_5 75 0 (Int.toNat 9) r_6 := ⟨_, rfl⟩
  rw [← eσ_7] at h
  have hw := hw σ_7 eσ_7
  refine lv_aload_n X.1 X.2.1 dX8_askOfCell_31 rfl (lv_at hl 0 rfl) ?_
  refine r_getR (ci := 8) X inw_8 h (hF.1 8 rfl).1 rfl rfl 9 (by decide) kw_290 rfl ((hF.1 8 rfl).2 9) dX8_askOfCell_32 ?_
  refine j_bipush X dX8_askOfCell_35 (by decide) ?_
  refine lv_aload_n X.1 X.2.1 dX8_askOfCell_37 rfl (lv_at hl 1 rfl) ?_
  refine r_getRN (ci := 3) X inw_3 h (hF.1 3 rfl).1 rfl rfl 1 (by decide) kw_191 rfl ((hF.1 3 rfl).2 1) dX8_askOfCell_38 ?_
  refine lv_iload_n X.1 X.2.1 dX8_askOfCell_41 rfl (lv_at hl 2 rfl) ?_
  obtain ⟨g_8, g_9, hw⟩ := hw
  refine r_iald (n := 64) X h (hF.1 29 rfl).1 rfl (by decide) g_8 g_9 dX8_askOfCell_42 ?_
  refine r_iast (n := 13) X h (hF.1 75 rfl).1 (fun _ => rfl) (by decide) (by decide) (by decide) rfl dX8_askOfCell_43 (fun H locs h => ?_)
  obtain ⟨σ_10, eσ_10⟩ : ∃ z : St, z = st σ_7 75 0 (Int.toNat 10) (σ_7 29 0 (Int.toNat x2)) := ⟨_, rfl⟩
  rw [← eσ_10] at h
  have hw := hw σ_10 eσ_10
  exact k_vr X h hw dX8_askOfCell_44
end
section
variable {p : Program} {l : Launch} {e : Env} {s : State} {m : MethodId} {args : Array Value} {below : List Frame} {meth : Method} {c : Code} {D : va_G} {ct : Nat → ClassId} {ad : Nat → Nat → Nat} {L : List (Nat × Nat)} {φ : Nat → Nat → Nat → Bool} {N0 : Nat}
variable {Q : Int → St → Prop}
set_option maxRecDepth 100000 in
set_option maxHeartbeats 4000000 in
theorem lb_X8_textOn_44 (X : Cx p s m meth c args cX8_textOn 4 (some .int) RX8 D ct L φ N0) {K4 : St → Int → Int → Int → Prop} (hK4 : ∀ (σ : St) (x1 : Int) (x2 : Int) (x3 : Int) (H : Heap) (locs : List Loc) (ls : Array Slot), K4 σ x1 x2 x3 → Hs D ct ad L φ N0 s.heap σ H locs → lv_has ls 4 [(0, .ref (ad 8 0)), (1, .int (iv x1)), (2, .int (iv x2)), (3, .int (iv x3))] → W p l e ({ frames := 0, cells := 0, slots := 0, locals := 0 } : Room) s m args below meth c H locs 0 0 (MQ below (Qi D ct ad L φ N0 Q) args s 0 0 (AA N0)) (F0 m 4 ls [])) (σ : St) (x1 : Int) (x2 : Int) (x3 : Int) (H : Heap) (locs : List Loc) (ls : Array Slot) (hw : wp_X8_textOn_44 K4 Q σ x1 x2 x3) (h : Hs D ct ad L φ N0 s.heap σ H locs) (hl : lv_has ls 4 [(0, .ref (ad 8 0)), (1, .int (iv x1)), (2, .int (iv x2)), (3, .int (iv x3))]) : W p l e ({ frames := 0, cells := 0, slots := 0, locals := 0 } : Room) s m args below meth c H locs 0 0 (MQ below (Qi D ct ad L φ N0 Q) args s 0 0 (AA N0)) (F0 m 44 ls []) := by
  have hF := X.2.2.2.2.2.2.2.2.1
  unfold wp_X8_textOn_44 at hw
  refine j_iinc (kk9 := 3) (lv' := [(3, .int (iv (x3 + 1))), (0, .ref (ad 8 0)), (1, .int (iv x1)), (2, .int (iv x2))]) X dX8_textOn_44 hl rfl (by decide) rfl (fun ls hl => ?_)
  refine lv_goto (tgt := 4) X.1 X.2.1 dX8_textOn_47 (by decide) ?_
  exact hK4 σ x1 x2 (x3 + 1) _ _ _ hw h (lv_sub hl [1, 2, 3, 0] rfl)
set_option maxRecDepth 100000 in
set_option maxHeartbeats 4000000 in
theorem lb_X8_textOn_42 (X : Cx p s m meth c args cX8_textOn 4 (some .int) RX8 D ct L φ N0) {K4 : St → Int → Int → Int → Prop} (hK4 : ∀ (σ : St) (x1 : Int) (x2 : Int) (x3 : Int) (H : Heap) (locs : List Loc) (ls : Array Slot), K4 σ x1 x2 x3 → Hs D ct ad L φ N0 s.heap σ H locs → lv_has ls 4 [(0, .ref (ad 8 0)), (1, .int (iv x1)), (2, .int (iv x2)), (3, .int (iv x3))] → W p l e ({ frames := 0, cells := 0, slots := 0, locals := 0 } : Room) s m args below meth c H locs 0 0 (MQ below (Qi D ct ad L φ N0 Q) args s 0 0 (AA N0)) (F0 m 4 ls [])) (σ : St) (x1 : Int) (x3 : Int) (H : Heap) (locs : List Loc) (ls : Array Slot) (hw : wp_X8_textOn_42 K4 Q σ x1 x3) (h : Hs D ct ad L φ N0 s.heap σ H locs) (hl : lv_has ls 4 [(0, .ref (ad 8 0)), (1, .int (iv x1)), (3, .int (iv x3))]) : W p l e ({ frames := 0, cells := 0, slots := 0, locals := 0 } : Room) s m args below meth c H locs 0 0 (MQ below (Qi D ct ad L φ N0 Q) args s 0 0 (AA N0)) (F0 m 42 ls []) := by
  have hF := X.2.2.2.2.2.2.2.2.1
  unfold wp_X8_textOn_42 at hw
  refine lv_iload_n X.1 X.2.1 dX8_textOn_42 rfl (lv_at hl 2 rfl) ?_
  refine lv_istore_n (lv' := [(2, .int (iv x3)), (0, .ref (ad 8 0)), (1, .int (iv x1)), (3, .int (iv x3))]) X.1 X.2.1 dX8_textOn_43 rfl hl (by decide) rfl (fun ls hl => ?_)
  exact lb_X8_textOn_44 X hK4 σ x1 x3 x3 _ _ _ hw h (lv_sub hl [1, 2, 0, 3] rfl)
set_option maxRecDepth 100000 in
set_option maxHeartbeats 4000000 in
theorem lb_X8_textOn_4 (X : Cx p s m meth c args cX8_textOn 4 (some .int) RX8 D ct L φ N0) : ∀ (n : Nat) (σ : St) (x1 : Int) (x2 : Int) (x3 : Int) (H : Heap) (locs : List Loc) (ls : Array Slot), wp_X8_textOn_4 Q n σ x1 x2 x3 → Hs D ct ad L φ N0 s.heap σ H locs → lv_has ls 4 [(0, .ref (ad 8 0)), (1, .int (iv x1)), (2, .int (iv x2)), (3, .int (iv x3))] → W p l e ({ frames := 0, cells := 0, slots := 0, locals := 0 } : Room) s m args below meth c H locs 0 0 (MQ below (Qi D ct ad L φ N0 Q) args s 0 0 (AA N0)) (F0 m 4 ls []) := by
  have hF := X.2.2.2.2.2.2.2.2.1
  intro n
  induction n with
  | zero => intro σ x1 x2 x3 H locs ls hw; exact hw.elim
  | succ n ih =>
    intro σ x1 x2 x3 H locs ls hw h hl
    unfold wp_X8_textOn_4 at hw
    refine lv_iload_n X.1 X.2.1 dX8_textOn_4 rfl (lv_at hl 3 rfl) ?_
    refine lv_aload_n X.1 X.2.1 dX8_textOn_5 rfl (lv_at hl 0 rfl) ?_
    refine r_get (ci := 8) X inw_8 h (hF.1 8 rfl).1 rfl rfl 10 (by decide) kw_292 rfl dX8_textOn_6 ?_
    obtain ⟨g_1, g_2, hwt, hwf⟩ := hw
    refine j_cmp_ge (tgt := 50) X g_1 g_2 dX8_textOn_9 (by decide) (fun c_17 => ?_) (fun c_17 => ?_)
    · have hw := hwt c_17
      refine lv_iload_n X.1 X.2.1 dX8_textOn_50 rfl (lv_at hl 2 rfl) ?_
      exact k_ir X rfl h hw dX8_textOn_51
    · have hw := hwf c_17
      refine lv_aload_n X.1 X.2.1 dX8_textOn_12 rfl (lv_at hl 0 rfl) ?_
      refine r_getR (ci := 8) X inw_8 h (hF.1 8 rfl).1 rfl rfl 0 (by decide) kw_281 rfl ((hF.1 8 rfl).2 0) dX8_textOn_13 ?_
      refine lv_iload_n X.1 X.2.1 dX8_textOn_16 rfl (lv_at hl 3 rfl) ?_
      obtain ⟨g_3, g_4, hw⟩ := hw
      refine r_iald (n := 20) X h (hF.1 66 rfl).1 rfl (by decide) g_3 g_4 dX8_textOn_17 ?_
      refine lv_iload_n X.1 X.2.1 dX8_textOn_18 rfl (lv_at hl 1 rfl) ?_
      obtain ⟨g_5, g_6, hwt, hwf⟩ := hw
      refine j_cmp_gt (tgt := 44) X g_5 g_6 dX8_textOn_19 (by decide) (fun c_16 => ?_) (fun c_16 => ?_)
      · have hw := hwt c_16
        exact lb_X8_textOn_44 X ih σ x1 x2 x3 _ _ _ hw h (lv_sub hl [0, 1, 2, 3] rfl)
      · have hw := hwf c_16
        refine lv_iload_n X.1 X.2.1 dX8_textOn_22 rfl (lv_at hl 2 rfl) ?_
        refine j_iconst X dX8_textOn_23 ?_
        obtain ⟨g_7, hwt, hwf⟩ := hw
        refine j_cmp_eq (tgt := 42) X g_7 ⟨by decide, by decide⟩ dX8_textOn_24 (by decide) (fun c_15 => ?_) (fun c_15 => ?_)
        · have hw := hwt c_15
          exact lb_X8_textOn_42 X ih σ x1 x3 _ _ _ hw h (lv_sub hl [0, 1, 3] rfl)
        · have hw := hwf c_15
          refine lv_aload_n X.1 X.2.1 dX8_textOn_27 rfl (lv_at hl 0 rfl) ?_
          refine r_getR (ci := 8) X inw_8 h (hF.1 8 rfl).1 rfl rfl 0 (by decide) kw_281 rfl ((hF.1 8 rfl).2 0) dX8_textOn_28 ?_
          refine lv_iload_n X.1 X.2.1 dX8_textOn_31 rfl (lv_at hl 3 rfl) ?_
          obtain ⟨g_8, g_9, hw⟩ := hw
          refine r_iald (n := 20) X h (hF.1 66 rfl).1 rfl (by decide) g_8 g_9 dX8_textOn_32 ?_
          refine lv_aload_n X.1 X.2.1 dX8_textOn_33 rfl (lv_at hl 0 rfl) ?_
          refine r_getR (ci := 8) X inw_8 h (hF.1 8 rfl).1 rfl rfl 0 (by decide) kw_281 rfl ((hF.1 8 rfl).2 0) dX8_textOn_34 ?_
          refine lv_iload_n X.1 X.2.1 dX8_textOn_37 rfl (lv_at hl 2 rfl) ?_
          obtain ⟨g_10, g_11, hw⟩ := hw
          refine r_iald (n := 20) X h (hF.1 66 rfl).1 rfl (by decide) g_10 g_11 dX8_textOn_38 ?_
          obtain ⟨g_12, g_13, hwt, hwf⟩ := hw
          refine j_cmp_lt (tgt := 44) X g_12 g_13 dX8_textOn_39 (by decide) (fun c_14 => ?_) (fun c_14 => ?_)
          · have hw := hwt c_14
            exact lb_X8_textOn_44 X ih σ x1 x2 x3 _ _ _ hw h (lv_sub hl [0, 1, 2, 3] rfl)
          · have hw := hwf c_14
            exact lb_X8_textOn_42 X ih σ x1 x3 _ _ _ hw h (lv_sub hl [0, 1, 3] rfl)
theorem pd_X8_textOn : yX8_textOn.cls ≠ "java/lang/invoke/MethodHandle" ∧ yX8_textOn.cls ≠ "java/lang/invoke/VarHandle" ∧ (parseMethodDescriptor yX8_textOn.desc).map (fun d => d.parameters.length) = some 1 := by decide +kernel
set_option maxRecDepth 100000 in
set_option maxHeartbeats 4000000 in
theorem c_X8_textOn (l : Launch) (D : va_G) (ct : Nat → ClassId) (ad : Nat → Nat → Nat) (L : List (Nat × Nat)) (φ : Nat → Nat → Nat → Bool) (N0 : Nat) (σ : St) (x1 : Int) (Q : Int → St → Prop) (hw : wp_X8_textOn σ x1 Q) : Met l yX8_textOn (.code yX8_textOn cX8_textOn 4 (some .int) :: gw) ({ frames := 0, cells := 0, slots := 0, locals := 0 } : Room) (Pm D ct ad L φ N0 σ [.ref (ad 8 0), .int (iv x1)]) (Qi D ct ad L φ N0 Q) 0 0 (AA N0) := by
  refine m_of (by decide) (fun p e s m below meth c X hnm h => ?_)
  have hF := X.2.2.2.2.2.2.2.2.1
  have hl := lv_entry ([.ref (ad 8 0), .int (iv x1)]) (n := 4) (Nat.le_of_ble_eq_true rfl)
  rw [lg_entry_eq]
  generalize (lg_sl ([.ref (ad 8 0), .int (iv x1)]) ++ List.replicate (4 - (lg_sl ([.ref (ad 8 0), .int (iv x1)])).length) Slot.unset).toArray = ls at hl ⊢
  have hl : lv_has ls 4 [(0, .ref (ad 8 0)), (1, .int (iv x1))] := hl
  have h : Hs D ct ad L φ N0 s.heap σ s.heap [] := h
  unfold wp_X8_textOn at hw
  refine j_iconst X dX8_textOn_0 ?_
  refine lv_istore_n (lv' := [(2, .int (iv (-1))), (0, .ref (ad 8 0)), (1, .int (iv x1))]) X.1 X.2.1 dX8_textOn_1 rfl hl (by decide) rfl (fun ls hl => ?_)
  refine j_iconst X dX8_textOn_2 ?_
  refine lv_istore_n (lv' := [(3, .int (iv 0)), (2, .int (iv (-1))), (0, .ref (ad 8 0)), (1, .int (iv x1))]) X.1 X.2.1 dX8_textOn_3 rfl hl (by decide) rfl (fun ls hl => ?_)
  exact hw.elim (fun n4 hw => lb_X8_textOn_4 X n4 σ x1 (-1) 0 _ _ _ hw h (lv_sub hl [2, 3, 1, 0] rfl))
end
section
variable {p : Program} {l : Launch} {e : Env} {s : State} {m : MethodId} {args : Array Value} {below : List Frame} {meth : Method} {c : Code} {D : va_G} {ct : Nat → ClassId} {ad : Nat → Nat → Nat} {L : List (Nat × Nat)} {φ : Nat → Nat → Nat → Bool} {N0 : Nat}
variable {Q : Int → St → Prop}
theorem pd_X8_compares : yX8_compares.cls ≠ "java/lang/invoke/MethodHandle" ∧ yX8_compares.cls ≠ "java/lang/invoke/VarHandle" ∧ (parseMethodDescriptor yX8_compares.desc).map (fun d => d.parameters.length) = some 3 := by decide +kernel
set_option maxRecDepth 100000 in
set_option maxHeartbeats 4000000 in
theorem c_X8_compares (l : Launch) (D : va_G) (ct : Nat → ClassId) (ad : Nat → Nat → Nat) (L : List (Nat × Nat)) (φ : Nat → Nat → Nat → Bool) (N0 : Nat) (σ : St) (x0 : Int) (x1 : Int) (x2 : Int) (Q : Int → St → Prop) (hw : wp_X8_compares σ x0 x1 x2 Q) : Met l yX8_compares (.code yX8_compares cX8_compares 3 (some .boolean) :: gw) ({ frames := 0, cells := 0, slots := 0, locals := 0 } : Room) (Pm D ct ad L φ N0 σ [.int (iv x0), .int (iv x1), .int (iv x2)]) (Qi D ct ad L φ N0 Q) 0 0 (AA N0) := by
  refine m_of (by decide) (fun p e s m below meth c X hnm h => ?_)
  have hF := X.2.2.2.2.2.2.2.2.1
  have hl := lv_entry ([.int (iv x0), .int (iv x1), .int (iv x2)]) (n := 3) (Nat.le_of_ble_eq_true rfl)
  rw [lg_entry_eq]
  generalize (lg_sl ([.int (iv x0), .int (iv x1), .int (iv x2)]) ++ List.replicate (3 - (lg_sl ([.int (iv x0), .int (iv x1), .int (iv x2)])).length) Slot.unset).toArray = ls at hl ⊢
  have hl : lv_has ls 3 [(0, .int (iv x0)), (1, .int (iv x1)), (2, .int (iv x2))] := hl
  have h : Hs D ct ad L φ N0 s.heap σ s.heap [] := h
  unfold wp_X8_compares at hw
  refine lv_iload_n X.1 X.2.1 dX8_compares_0 rfl (lv_at hl 1 rfl) ?_
  obtain ⟨g_1, hw0, hw1, hw2⟩ := hw
  by_cases c_11 : x1 = 0
  · have hw := hw0 c_11
    refine j_lk (off := 27) (tgt := 28) X g_1 dX8_compares_1 (by decide) (by rw [c_11]; decide) (by decide) ?_
    refine lv_iload_n X.1 X.2.1 dX8_compares_28 rfl (lv_at hl 0 rfl) ?_
    refine lv_iload_n X.1 X.2.1 dX8_compares_29 rfl (lv_at hl 2 rfl) ?_
    obtain ⟨g_2, g_3, hwt, hwf⟩ := hw
    refine j_cmp_ge (tgt := 37) X g_2 g_3 dX8_compares_30 (by decide) (fun c_4 => ?_) (fun c_4 => ?_)
    · have hw := hwt c_4
      refine j_iconst X dX8_compares_37 ?_
      exact k_ir X rfl h hw dX8_compares_38
    · have hw := hwf c_4
      refine j_iconst X dX8_compares_33 ?_
      refine lv_goto (tgt := 38) X.1 X.2.1 dX8_compares_34 (by decide) ?_
      exact k_ir X rfl h hw dX8_compares_38
  by_cases c_12 : x1 = 1
  · have hw := hw1 c_12
    refine j_lk (off := 38) (tgt := 39) X g_1 dX8_compares_1 (by decide) (by rw [c_12]; decide) (by decide) ?_
    refine lv_iload_n X.1 X.2.1 dX8_compares_39 rfl (lv_at hl 0 rfl) ?_
    refine lv_iload_n X.1 X.2.1 dX8_compares_40 rfl (lv_at hl 2 rfl) ?_
    obtain ⟨g_5, g_6, hwt, hwf⟩ := hw
    refine j_cmp_ne (tgt := 48) X g_5 g_6 dX8_compares_41 (by decide) (fun c_7 => ?_) (fun c_7 => ?_)
    · have hw := hwt c_7
      refine j_iconst X dX8_compares_48 ?_
      exact k_ir X rfl h hw dX8_compares_49
    · have hw := hwf c_7
      refine j_iconst X dX8_compares_44 ?_
      refine lv_goto (tgt := 49) X.1 X.2.1 dX8_compares_45 (by decide) ?_
      exact k_ir X rfl h hw dX8_compares_49
  have hw := hw2 ⟨c_11, c_12⟩
  refine j_lk (off := 49) (tgt := 50) X g_1 dX8_compares_1 (by decide) (by simp [Op.lookupswitch.offset, Ne.symm (show x1 ≠ 0 from c_11), Ne.symm (show x1 ≠ 1 from c_12)]) (by decide) ?_
  refine lv_iload_n X.1 X.2.1 dX8_compares_50 rfl (lv_at hl 0 rfl) ?_
  refine lv_iload_n X.1 X.2.1 dX8_compares_51 rfl (lv_at hl 2 rfl) ?_
  obtain ⟨g_8, g_9, hwt, hwf⟩ := hw
  refine j_cmp_le (tgt := 59) X g_8 g_9 dX8_compares_52 (by decide) (fun c_10 => ?_) (fun c_10 => ?_)
  · have hw := hwt c_10
    refine j_iconst X dX8_compares_59 ?_
    exact k_ir X rfl h hw dX8_compares_60
  · have hw := hwf c_10
    refine j_iconst X dX8_compares_55 ?_
    refine lv_goto (tgt := 60) X.1 X.2.1 dX8_compares_56 (by decide) ?_
    exact k_ir X rfl h hw dX8_compares_60
end
section
variable {p : Program} {l : Launch} {e : Env} {s : State} {m : MethodId} {args : Array Value} {below : List Frame} {meth : Method} {c : Code} {D : va_G} {ct : Nat → ClassId} {ad : Nat → Nat → Nat} {L : List (Nat × Nat)} {φ : Nat → Nat → Nat → Bool} {N0 : Nat}
variable {Q : Int → St → Prop}
theorem pd_X8_termHolds : yX8_termHolds.cls ≠ "java/lang/invoke/MethodHandle" ∧ yX8_termHolds.cls ≠ "java/lang/invoke/VarHandle" ∧ (parseMethodDescriptor yX8_termHolds.desc).map (fun d => d.parameters.length) = some 1 := by decide +kernel
set_option maxRecDepth 100000 in
set_option maxHeartbeats 4000000 in
theorem c_X8_termHolds (l : Launch) (D : va_G) (ct : Nat → ClassId) (ad : Nat → Nat → Nat) (L : List (Nat × Nat)) (φ : Nat → Nat → Nat → Bool) (N0 : Nat) (σ : St) (x1 : Int) (Q : Int → St → Prop) (hw : wp_X8_termHolds σ x1 Q) : Met l yX8_termHolds (.code yX8_termHolds cX8_termHolds 2 (some .boolean) :: gw) ({ frames := 1, cells := 0, slots := 0, locals := 22 } : Room) (Pm D ct ad L φ N0 σ [.ref (ad 8 0), .int (iv x1)]) (Qi D ct ad L φ N0 Q) 0 0 (AA N0) := by
  refine m_of (by decide) (fun p e s m below meth c X hnm h => ?_)
  have hF := X.2.2.2.2.2.2.2.2.1
  have hl := lv_entry ([.ref (ad 8 0), .int (iv x1)]) (n := 2) (Nat.le_of_ble_eq_true rfl)
  rw [lg_entry_eq]
  generalize (lg_sl ([.ref (ad 8 0), .int (iv x1)]) ++ List.replicate (2 - (lg_sl ([.ref (ad 8 0), .int (iv x1)])).length) Slot.unset).toArray = ls at hl ⊢
  have hl : lv_has ls 2 [(0, .ref (ad 8 0)), (1, .int (iv x1))] := hl
  have h : Hs D ct ad L φ N0 s.heap σ s.heap [] := h
  unfold wp_X8_termHolds at hw
  refine lv_aload_n X.1 X.2.1 dX8_termHolds_0 rfl (lv_at hl 0 rfl) ?_
  refine r_getR (ci := 8) X inw_8 h (hF.1 8 rfl).1 rfl rfl 9 (by decide) kw_290 rfl ((hF.1 8 rfl).2 9) dX8_termHolds_1 ?_
  refine lv_aload_n X.1 X.2.1 dX8_termHolds_4 rfl (lv_at hl 0 rfl) ?_
  refine r_getR (ci := 8) X inw_8 h (hF.1 8 rfl).1 rfl rfl 6 (by decide) kw_287 rfl ((hF.1 8 rfl).2 6) dX8_termHolds_5 ?_
  refine lv_iload_n X.1 X.2.1 dX8_termHolds_8 rfl (lv_at hl 1 rfl) ?_
  obtain ⟨g_1, g_2, hw⟩ := hw
  refine r_iald (n := 1200) X h (hF.1 72 rfl).1 rfl (by decide) g_1 g_2 dX8_termHolds_9 ?_
  obtain ⟨g_3, g_4, hw⟩ := hw
  refine r_iald (n := 13) X h (hF.1 75 rfl).1 rfl (by decide) g_3 g_4 dX8_termHolds_10 ?_
  refine lv_aload_n X.1 X.2.1 dX8_termHolds_11 rfl (lv_at hl 0 rfl) ?_
  refine r_getR (ci := 8) X inw_8 h (hF.1 8 rfl).1 rfl rfl 7 (by decide) kw_288 rfl ((hF.1 8 rfl).2 7) dX8_termHolds_12 ?_
  refine lv_iload_n X.1 X.2.1 dX8_termHolds_15 rfl (lv_at hl 1 rfl) ?_
  obtain ⟨g_5, g_6, hw⟩ := hw
  refine r_iald (n := 1200) X h (hF.1 73 rfl).1 rfl (by decide) g_5 g_6 dX8_termHolds_16 ?_
  refine lv_aload_n X.1 X.2.1 dX8_termHolds_17 rfl (lv_at hl 0 rfl) ?_
  refine r_getR (ci := 8) X inw_8 h (hF.1 8 rfl).1 rfl rfl 8 (by decide) kw_289 rfl ((hF.1 8 rfl).2 8) dX8_termHolds_18 ?_
  refine lv_iload_n X.1 X.2.1 dX8_termHolds_21 rfl (lv_at hl 1 rfl) ?_
  obtain ⟨g_7, g_8, hw⟩ := hw
  refine r_iald (n := 1200) X h (hF.1 74 rfl).1 rfl (by decide) g_7 g_8 dX8_termHolds_22 ?_
  refine k_i h (r_S (As := [.int (iv (σ 75 0 (Int.toNat (σ 72 0 (Int.toNat x1))))), .int (iv (σ 73 0 (Int.toNat x1))), .int (iv (σ 74 0 (Int.toNat x1)))]) (rest := []) X h (c_X8_compares l D ct ad L φ N0 σ (σ 75 0 (Int.toNat (σ 72 0 (Int.toNat x1)))) (σ 73 0 (Int.toNat x1)) (σ 74 0 (Int.toNat x1)) _ hw) rfl rfl ⟨Nat.le_of_ble_eq_true rfl, Nat.le_of_ble_eq_true rfl⟩ kw_686 kw_687 kw_125 kw_688 pd_X8_compares rfl hl.1 rfl (Nat.le_of_ble_eq_true rfl) ⟨Nat.le_of_ble_eq_true rfl, Nat.le_of_ble_eq_true rfl⟩ dX8_termHolds_23) (fun r_10 σ_9 H locs hw h => ?_)
  refine lv_aload_n X.1 X.2.1 dX8_termHolds_26 rfl (lv_at hl 0 rfl) ?_
  refine r_getR (ci := 8) X inw_8 h (hF.1 8 rfl).1 rfl rfl 5 (by decide) kw_286 rfl ((hF.1 8 rfl).2 5) dX8_termHolds_27 ?_
  refine lv_iload_n X.1 X.2.1 dX8_termHolds_30 rfl (lv_at hl 1 rfl) ?_
  obtain ⟨g_11, g_12, hw⟩ := hw
  refine r_zald (n := 1200) X h (hF.1 71 rfl).1 rfl (by decide) g_11 g_12 dX8_termHolds_31 ?_
  obtain ⟨g_13, g_14, hwt, hwf⟩ := hw
  refine j_cmp_eq (tgt := 39) X g_13 g_14 dX8_termHolds_32 (by decide) (fun c_15 => ?_) (fun c_15 => ?_)
  · have hw := hwt c_15
    refine j_iconst X dX8_termHolds_39 ?_
    exact k_ir X rfl h hw dX8_termHolds_40
  · have hw := hwf c_15
    refine j_iconst X dX8_termHolds_35 ?_
    refine lv_goto (tgt := 40) X.1 X.2.1 dX8_termHolds_36 (by decide) ?_
    exact k_ir X rfl h hw dX8_termHolds_40
end
section
variable {p : Program} {l : Launch} {e : Env} {s : State} {m : MethodId} {args : Array Value} {below : List Frame} {meth : Method} {c : Code} {D : va_G} {ct : Nat → ClassId} {ad : Nat → Nat → Nat} {L : List (Nat × Nat)} {φ : Nat → Nat → Nat → Bool} {N0 : Nat}
variable {Q : Int → St → Prop}
set_option maxRecDepth 100000 in
set_option maxHeartbeats 4000000 in
theorem lb_X8_holds_2 (X : Cx p s m meth c args cX8_holds 3 (some .boolean) RX8 D ct L φ N0) : ∀ (n : Nat) (σ : St) (x1 : Int) (x2 : Int) (H : Heap) (locs : List Loc) (ls : Array Slot), wp_X8_holds_2 Q n σ x1 x2 → Hs D ct ad L φ N0 s.heap σ H locs → lv_has ls 3 [(0, .ref (ad 8 0)), (1, .int (iv x1)), (2, .int (iv x2))] → W p l e ({ frames := 2, cells := 0, slots := 0, locals := 43 } : Room) s m args below meth c H locs 0 0 (MQ below (Qi D ct ad L φ N0 Q) args s 0 0 (AA N0)) (F0 m 2 ls []) := by
  have hF := X.2.2.2.2.2.2.2.2.1
  intro n
  induction n with
  | zero => intro σ x1 x2 H locs ls hw; exact hw.elim
  | succ n ih =>
    intro σ x1 x2 H locs ls hw h hl
    unfold wp_X8_holds_2 at hw
    refine lv_iload_n X.1 X.2.1 dX8_holds_2 rfl (lv_at hl 2 rfl) ?_
    refine lv_aload_n X.1 X.2.1 dX8_holds_3 rfl (lv_at hl 0 rfl) ?_
    refine r_getR (ci := 8) X inw_8 h (hF.1 8 rfl).1 rfl rfl 4 (by decide) kw_285 rfl ((hF.1 8 rfl).2 4) dX8_holds_4 ?_
    refine lv_iload_n X.1 X.2.1 dX8_holds_7 rfl (lv_at hl 1 rfl) ?_
    obtain ⟨g_1, g_2, hw⟩ := hw
    refine r_iald (n := 240) X h (hF.1 70 rfl).1 rfl (by decide) g_1 g_2 dX8_holds_8 ?_
    obtain ⟨g_3, g_4, hwt, hwf⟩ := hw
    refine j_cmp_ge (tgt := 32) X g_3 g_4 dX8_holds_9 (by decide) (fun c_9 => ?_) (fun c_9 => ?_)
    · have hw := hwt c_9
      refine j_iconst X dX8_holds_32 ?_
      exact k_ir X rfl h hw dX8_holds_33
    · have hw := hwf c_9
      refine lv_aload_n X.1 X.2.1 dX8_holds_12 rfl (lv_at hl 0 rfl) ?_
      refine lv_iload_n X.1 X.2.1 dX8_holds_13 rfl (lv_at hl 1 rfl) ?_
      refine j_iconst X dX8_holds_14 ?_
      refine j_imul X dX8_holds_15 ?_
      refine lv_iload_n X.1 X.2.1 dX8_holds_16 rfl (lv_at hl 2 rfl) ?_
      refine j_iadd X dX8_holds_17 ?_
      refine k_i h (r_V (C := RX8) (ci := 8) (As := [.int (iv ((x1 * 5) + x2))]) (rest := []) X h (c_X8_termHolds l D ct ad L φ N0 σ ((x1 * 5) + x2) _ hw) rfl rfl ⟨Nat.le_of_ble_eq_true rfl, Nat.le_of_ble_eq_true rfl⟩ kw_682 kw_684 kw_8 kw_125 kw_685 ⟨rfl, pd_X8_termHolds⟩ (hF.1 8 rfl).1 rfl rfl rfl hl.1 rfl (Nat.le_of_ble_eq_true rfl) ⟨Nat.le_of_ble_eq_true rfl, Nat.le_of_ble_eq_true rfl⟩ dX8_holds_18) (fun r_6 σ_5 H locs hw h => ?_)
      obtain ⟨g_7, hwt, hwf⟩ := hw
      refine j_if_ne (tgt := 26) X g_7 dX8_holds_21 (by decide) (fun c_8 => ?_) (fun c_8 => ?_)
      · have hw := hwt c_8
        refine j_iinc (kk9 := 2) (lv' := [(2, .int (iv (x2 + 1))), (0, .ref (ad 8 0)), (1, .int (iv x1))]) X dX8_holds_26 hl rfl (by decide) rfl (fun ls hl => ?_)
        refine lv_goto (tgt := 2) X.1 X.2.1 dX8_holds_29 (by decide) ?_
        exact ih σ_5 x1 (x2 + 1) _ _ _ hw h (lv_sub hl [1, 2, 0] rfl)
      · have hw := hwf c_8
        refine j_iconst X dX8_holds_24 ?_
        exact k_ir X rfl h hw dX8_holds_25
theorem pd_X8_holds : yX8_holds.cls ≠ "java/lang/invoke/MethodHandle" ∧ yX8_holds.cls ≠ "java/lang/invoke/VarHandle" ∧ (parseMethodDescriptor yX8_holds.desc).map (fun d => d.parameters.length) = some 1 := by decide +kernel
set_option maxRecDepth 100000 in
set_option maxHeartbeats 4000000 in
theorem c_X8_holds (l : Launch) (D : va_G) (ct : Nat → ClassId) (ad : Nat → Nat → Nat) (L : List (Nat × Nat)) (φ : Nat → Nat → Nat → Bool) (N0 : Nat) (σ : St) (x1 : Int) (Q : Int → St → Prop) (hw : wp_X8_holds σ x1 Q) : Met l yX8_holds (.code yX8_holds cX8_holds 3 (some .boolean) :: gw) ({ frames := 2, cells := 0, slots := 0, locals := 43 } : Room) (Pm D ct ad L φ N0 σ [.ref (ad 8 0), .int (iv x1)]) (Qi D ct ad L φ N0 Q) 0 0 (AA N0) := by
  refine m_of (by decide) (fun p e s m below meth c X hnm h => ?_)
  have hF := X.2.2.2.2.2.2.2.2.1
  have hl := lv_entry ([.ref (ad 8 0), .int (iv x1)]) (n := 3) (Nat.le_of_ble_eq_true rfl)
  rw [lg_entry_eq]
  generalize (lg_sl ([.ref (ad 8 0), .int (iv x1)]) ++ List.replicate (3 - (lg_sl ([.ref (ad 8 0), .int (iv x1)])).length) Slot.unset).toArray = ls at hl ⊢
  have hl : lv_has ls 3 [(0, .ref (ad 8 0)), (1, .int (iv x1))] := hl
  have h : Hs D ct ad L φ N0 s.heap σ s.heap [] := h
  unfold wp_X8_holds at hw
  refine j_iconst X dX8_holds_0 ?_
  refine lv_istore_n (lv' := [(2, .int (iv 0)), (0, .ref (ad 8 0)), (1, .int (iv x1))]) X.1 X.2.1 dX8_holds_1 rfl hl (by decide) rfl (fun ls hl => ?_)
  exact hw.elim (fun n2 hw => lb_X8_holds_2 X n2 σ x1 0 _ _ _ hw h (lv_sub hl [1, 2, 0] rfl))
end
section
variable {p : Program} {l : Launch} {e : Env} {s : State} {m : MethodId} {args : Array Value} {below : List Frame} {meth : Method} {c : Code} {D : va_G} {ct : Nat → ClassId} {ad : Nat → Nat → Nat} {L : List (Nat × Nat)} {φ : Nat → Nat → Nat → Bool} {N0 : Nat}
variable {Q : Int → St → Prop}
set_option maxRecDepth 100000 in
set_option maxHeartbeats 4000000 in
theorem lb_X8_barring_75 (X : Cx p s m meth c args cX8_barring 7 (some .int) RX8 D ct L φ N0) {K26 : St → Int → Int → Int → Int → Prop} (hK26 : ∀ (σ : St) (x2 : Int) (x3 : Int) (x4 : Int) (x5 : Int) (H : Heap) (locs : List Loc) (ls : Array Slot), K26 σ x2 x3 x4 x5 → Hs D ct ad L φ N0 s.heap σ H locs → lv_has ls 7 [(0, .ref (ad 8 0)), (2, .int (iv x2)), (3, .int (iv x3)), (4, .int (iv x4)), (5, .int (iv x5))] → W p l e ({ frames := 3, cells := 0, slots := 0, locals := 65 } : Room) s m args below meth c H locs 0 0 (MQ below (Qi D ct ad L φ N0 Q) args s 0 0 (AA N0)) (F0 m 26 ls [])) (σ : St) (x2 : Int) (x3 : Int) (x4 : Int) (x5 : Int) (H : Heap) (locs : List Loc) (ls : Array Slot) (hw : wp_X8_barring_75 K26 Q σ x2 x3 x4 x5) (h : Hs D ct ad L φ N0 s.heap σ H locs) (hl : lv_has ls 7 [(0, .ref (ad 8 0)), (2, .int (iv x2)), (3, .int (iv x3)), (4, .int (iv x4)), (5, .int (iv x5))]) : W p l e ({ frames := 3, cells := 0, slots := 0, locals := 65 } : Room) s m args below meth c H locs 0 0 (MQ below (Qi D ct ad L φ N0 Q) args s 0 0 (AA N0)) (F0 m 75 ls []) := by
  have hF := X.2.2.2.2.2.2.2.2.1
  unfold wp_X8_barring_75 at hw
  refine j_iinc (kk9 := 4) (lv' := [(5, .int (iv (x5 + 1))), (0, .ref (ad 8 0)), (2, .int (iv x2)), (3, .int (iv x3)), (4, .int (iv x4))]) X dX8_barring_75 hl rfl (by decide) rfl (fun ls hl => ?_)
  refine lv_goto (tgt := 26) X.1 X.2.1 dX8_barring_78 (by decide) ?_
  exact hK26 σ x2 x3 x4 (x5 + 1) _ _ _ hw h (lv_sub hl [1, 2, 3, 4, 0] rfl)
set_option maxRecDepth 100000 in
set_option maxHeartbeats 4000000 in
theorem lb_X8_barring_26 (X : Cx p s m meth c args cX8_barring 7 (some .int) RX8 D ct L φ N0) : ∀ (n : Nat) (σ : St) (x2 : Int) (x3 : Int) (x4 : Int) (x5 : Int) (H : Heap) (locs : List Loc) (ls : Array Slot), wp_X8_barring_26 Q n σ x2 x3 x4 x5 → Hs D ct ad L φ N0 s.heap σ H locs → lv_has ls 7 [(0, .ref (ad 8 0)), (2, .int (iv x2)), (3, .int (iv x3)), (4, .int (iv x4)), (5, .int (iv x5))] → W p l e ({ frames := 3, cells := 0, slots := 0, locals := 65 } : Room) s m args below meth c H locs 0 0 (MQ below (Qi D ct ad L φ N0 Q) args s 0 0 (AA N0)) (F0 m 26 ls []) := by
  have hF := X.2.2.2.2.2.2.2.2.1
  intro n
  induction n with
  | zero => intro σ x2 x3 x4 x5 H locs ls hw; exact hw.elim
  | succ n ih =>
    intro σ x2 x3 x4 x5 H locs ls hw h hl
    unfold wp_X8_barring_26 at hw
    refine lv_iload X.1 X.2.1 dX8_barring_26 (lv_at hl 4 rfl) ?_
    refine lv_iload X.1 X.2.1 dX8_barring_28 (lv_at hl 3 rfl) ?_
    obtain ⟨g_1, g_2, hwt, hwf⟩ := hw
    refine j_cmp_ge (tgt := 81) X g_1 g_2 dX8_barring_30 (by decide) (fun c_17 => ?_) (fun c_17 => ?_)
    · have hw := hwt c_17
      refine j_iconst X dX8_barring_81 ?_
      exact k_ir X rfl h hw dX8_barring_82
    · have hw := hwf c_17
      refine lv_iload_n X.1 X.2.1 dX8_barring_33 rfl (lv_at hl 2 rfl) ?_
      refine j_bipush X dX8_barring_34 (by decide) ?_
      refine j_imul X dX8_barring_36 ?_
      refine lv_iload X.1 X.2.1 dX8_barring_37 (lv_at hl 4 rfl) ?_
      refine j_iadd X dX8_barring_39 ?_
      refine j_bind (fun v_3 ev_3 => ?_)
      have hw := hw v_3 ev_3
      refine lv_istore (lv' := [(6, .int (iv v_3)), (0, .ref (ad 8 0)), (2, .int (iv x2)), (3, .int (iv x3)), (4, .int (iv x4)), (5, .int (iv x5))]) X.1 X.2.1 dX8_barring_40 hl (by decide) rfl (fun ls hl => ?_)
      refine lv_aload_n X.1 X.2.1 dX8_barring_42 rfl (lv_at hl 1 rfl) ?_
      refine r_getR (ci := 8) X inw_8 h (hF.1 8 rfl).1 rfl rfl 2 (by decide) kw_283 rfl ((hF.1 8 rfl).2 2) dX8_barring_43 ?_
      refine lv_iload X.1 X.2.1 dX8_barring_46 (lv_at hl 0 rfl) ?_
      obtain ⟨g_4, g_5, hw⟩ := hw
      refine r_iald (n := 240) X h (hF.1 68 rfl).1 rfl (by decide) g_4 g_5 dX8_barring_48 ?_
      obtain ⟨g_6, hwt, hwf⟩ := hw
      refine j_if_ne (tgt := 75) X g_6 dX8_barring_49 (by decide) (fun c_16 => ?_) (fun c_16 => ?_)
      · have hw := hwt c_16
        exact lb_X8_barring_75 X ih σ x2 x3 x4 x5 _ _ _ hw h (lv_sub hl [1, 2, 3, 4, 5] rfl)
      · have hw := hwf c_16
        refine lv_aload_n X.1 X.2.1 dX8_barring_52 rfl (lv_at hl 1 rfl) ?_
        refine r_getR (ci := 8) X inw_8 h (hF.1 8 rfl).1 rfl rfl 3 (by decide) kw_284 rfl ((hF.1 8 rfl).2 3) dX8_barring_53 ?_
        refine lv_iload X.1 X.2.1 dX8_barring_56 (lv_at hl 0 rfl) ?_
        obtain ⟨g_7, g_8, hw⟩ := hw
        refine r_iald (n := 240) X h (hF.1 69 rfl).1 rfl (by decide) g_7 g_8 dX8_barring_58 ?_
        refine lv_iload_n X.1 X.2.1 dX8_barring_59 rfl (lv_at hl 2 rfl) ?_
        obtain ⟨g_9, g_10, hwt, hwf⟩ := hw
        refine j_cmp_ne (tgt := 75) X g_9 g_10 dX8_barring_60 (by decide) (fun c_15 => ?_) (fun c_15 => ?_)
        · have hw := hwt c_15
          exact lb_X8_barring_75 X ih σ x2 x3 x4 x5 _ _ _ hw h (lv_sub hl [1, 2, 3, 4, 5] rfl)
        · have hw := hwf c_15
          refine lv_aload_n X.1 X.2.1 dX8_barring_63 rfl (lv_at hl 1 rfl) ?_
          refine lv_iload X.1 X.2.1 dX8_barring_64 (lv_at hl 0 rfl) ?_
          refine k_i h (r_V (C := RX8) (ci := 8) (As := [.int (iv v_3)]) (rest := []) X h (c_X8_holds l D ct ad L φ N0 σ v_3 _ hw) rfl rfl ⟨Nat.le_of_ble_eq_true rfl, Nat.le_of_ble_eq_true rfl⟩ kw_678 kw_680 kw_7 kw_125 kw_681 ⟨rfl, pd_X8_holds⟩ (hF.1 8 rfl).1 rfl rfl rfl hl.1 rfl (Nat.le_of_ble_eq_true rfl) ⟨Nat.le_of_ble_eq_true rfl, Nat.le_of_ble_eq_true rfl⟩ dX8_barring_66) (fun r_12 σ_11 H locs hw h => ?_)
          obtain ⟨g_13, hwt, hwf⟩ := hw
          refine j_if_eq (tgt := 75) X g_13 dX8_barring_69 (by decide) (fun c_14 => ?_) (fun c_14 => ?_)
          · have hw := hwt c_14
            exact lb_X8_barring_75 X ih σ_11 x2 x3 x4 x5 _ _ _ hw h (lv_sub hl [1, 2, 3, 4, 5] rfl)
          · have hw := hwf c_14
            refine lv_iload X.1 X.2.1 dX8_barring_72 (lv_at hl 5 rfl) ?_
            exact k_ir X rfl h hw dX8_barring_74
set_option maxRecDepth 100000 in
set_option maxHeartbeats 4000000 in
theorem lb_X8_barring_21 (X : Cx p s m meth c args cX8_barring 7 (some .int) RX8 D ct L φ N0) (σ : St) (x2 : Int) (x3 : Int) (y0 : Int) (H : Heap) (locs : List Loc) (ls : Array Slot) (hw : wp_X8_barring_21 Q σ x2 x3 y0) (h : Hs D ct ad L φ N0 s.heap σ H locs) (hl : lv_has ls 7 [(0, .ref (ad 8 0)), (2, .int (iv x2)), (3, .int (iv x3))]) : W p l e ({ frames := 3, cells := 0, slots := 0, locals := 65 } : Room) s m args below meth c H locs 0 0 (MQ below (Qi D ct ad L φ N0 Q) args s 0 0 (AA N0)) (F0 m 21 ls [.int (iv y0)]) := by
  have hF := X.2.2.2.2.2.2.2.2.1
  unfold wp_X8_barring_21 at hw
  refine lv_istore (lv' := [(4, .int (iv y0)), (0, .ref (ad 8 0)), (2, .int (iv x2)), (3, .int (iv x3))]) X.1 X.2.1 dX8_barring_21 hl (by decide) rfl (fun ls hl => ?_)
  refine j_iconst X dX8_barring_23 ?_
  refine lv_istore (lv' := [(5, .int (iv 0)), (4, .int (iv y0)), (0, .ref (ad 8 0)), (2, .int (iv x2)), (3, .int (iv x3))]) X.1 X.2.1 dX8_barring_24 hl (by decide) rfl (fun ls hl => ?_)
  exact hw.elim (fun n26 hw => lb_X8_barring_26 X n26 σ x2 x3 y0 0 _ _ _ hw h (lv_sub hl [2, 3, 4, 1, 0] rfl))
theorem pd_X8_barring : yX8_barring.cls ≠ "java/lang/invoke/MethodHandle" ∧ yX8_barring.cls ≠ "java/lang/invoke/VarHandle" ∧ (parseMethodDescriptor yX8_barring.desc).map (fun d => d.parameters.length) = some 2 := by decide +kernel
set_option maxRecDepth 100000 in
set_option maxHeartbeats 4000000 in
theorem c_X8_barring (l : Launch) (D : va_G) (ct : Nat → ClassId) (ad : Nat → Nat → Nat) (L : List (Nat × Nat)) (φ : Nat → Nat → Nat → Bool) (N0 : Nat) (σ : St) (x1 : Int) (x2 : Int) (Q : Int → St → Prop) (hw : wp_X8_barring σ x1 x2 Q) : Met l yX8_barring (.code yX8_barring cX8_barring 7 (some .int) :: gw) ({ frames := 3, cells := 0, slots := 0, locals := 65 } : Room) (Pm D ct ad L φ N0 σ [.ref (ad 8 0), .int (iv x1), .int (iv x2)]) (Qi D ct ad L φ N0 Q) 0 0 (AA N0) := by
  refine m_of (by decide) (fun p e s m below meth c X hnm h => ?_)
  have hF := X.2.2.2.2.2.2.2.2.1
  have hl := lv_entry ([.ref (ad 8 0), .int (iv x1), .int (iv x2)]) (n := 7) (Nat.le_of_ble_eq_true rfl)
  rw [lg_entry_eq]
  generalize (lg_sl ([.ref (ad 8 0), .int (iv x1), .int (iv x2)]) ++ List.replicate (7 - (lg_sl ([.ref (ad 8 0), .int (iv x1), .int (iv x2)])).length) Slot.unset).toArray = ls at hl ⊢
  have hl : lv_has ls 7 [(0, .ref (ad 8 0)), (1, .int (iv x1)), (2, .int (iv x2))] := hl
  have h : Hs D ct ad L φ N0 s.heap σ s.heap [] := h
  unfold wp_X8_barring at hw
  refine lv_aload_n X.1 X.2.1 dX8_barring_0 rfl (lv_at hl 0 rfl) ?_
  refine lv_iload_n X.1 X.2.1 dX8_barring_1 rfl (lv_at hl 1 rfl) ?_
  refine k_i h (r_V (C := RX8) (ci := 8) (As := [.int (iv x1)]) (rest := []) X h (c_X8_textOn l D ct ad L φ N0 σ x1 _ hw) rfl rfl ⟨Nat.le_of_ble_eq_true rfl, Nat.le_of_ble_eq_true rfl⟩ kw_674 kw_676 kw_6 kw_125 kw_677 ⟨rfl, pd_X8_textOn⟩ (hF.1 8 rfl).1 rfl rfl rfl hl.1 rfl (Nat.le_of_ble_eq_true rfl) ⟨Nat.le_of_ble_eq_true rfl, Nat.le_of_ble_eq_true rfl⟩ dX8_barring_2) (fun r_19 σ_18 H locs hw h => ?_)
  refine lv_istore_n (lv' := [(3, .int (iv r_19)), (0, .ref (ad 8 0)), (1, .int (iv x1)), (2, .int (iv x2))]) X.1 X.2.1 dX8_barring_5 rfl hl (by decide) rfl (fun ls hl => ?_)
  refine lv_iload_n X.1 X.2.1 dX8_barring_6 rfl (lv_at hl 0 rfl) ?_
  refine j_iconst X dX8_barring_7 ?_
  obtain ⟨g_20, hwt, hwf⟩ := hw
  refine j_cmp_ne (tgt := 15) X g_20 ⟨by decide, by decide⟩ dX8_barring_8 (by decide) (fun c_23 => ?_) (fun c_23 => ?_)
  · have hw := hwt c_23
    refine lv_aload_n X.1 X.2.1 dX8_barring_15 rfl (lv_at hl 1 rfl) ?_
    refine r_getR (ci := 8) X inw_8 h (hF.1 8 rfl).1 rfl rfl 1 (by decide) kw_282 rfl ((hF.1 8 rfl).2 1) dX8_barring_16 ?_
    refine lv_iload_n X.1 X.2.1 dX8_barring_19 rfl (lv_at hl 0 rfl) ?_
    obtain ⟨g_21, g_22, hw⟩ := hw
    refine r_iald (n := 20) X h (hF.1 67 rfl).1 rfl (by decide) g_21 g_22 dX8_barring_20 ?_
    exact lb_X8_barring_21 X σ_18 x2 r_19 (σ_18 67 0 (Int.toNat r_19)) _ _ _ hw h (lv_sub hl [1, 3, 0] rfl)
  · have hw := hwf c_23
    refine j_iconst X dX8_barring_11 ?_
    refine lv_goto (tgt := 21) X.1 X.2.1 dX8_barring_12 (by decide) ?_
    exact lb_X8_barring_21 X σ_18 x2 r_19 0 _ _ _ hw h (lv_sub hl [1, 3, 0] rfl)
end
section
variable {p : Program} {l : Launch} {e : Env} {s : State} {m : MethodId} {args : Array Value} {below : List Frame} {meth : Method} {c : Code} {D : va_G} {ct : Nat → ClassId} {ad : Nat → Nat → Nat} {L : List (Nat × Nat)} {φ : Nat → Nat → Nat → Bool} {N0 : Nat}
variable {Q : Int → St → Prop}
set_option maxRecDepth 100000 in
set_option maxHeartbeats 4000000 in
theorem lb_X8_numberOn_77 (X : Cx p s m meth c args cX8_numberOn 7 (some .int) RX8 D ct L φ N0) (σ : St) (x2 : Int) (H : Heap) (locs : List Loc) (ls : Array Slot) (hw : wp_X8_numberOn_77 Q σ x2) (h : Hs D ct ad L φ N0 s.heap σ H locs) (hl : lv_has ls 7 [(2, .int (iv x2))]) : W p l e ({ frames := 3, cells := 0, slots := 0, locals := 65 } : Room) s m args below meth c H locs 0 0 (MQ below (Qi D ct ad L φ N0 Q) args s 0 0 (AA N0)) (F0 m 77 ls []) := by
  have hF := X.2.2.2.2.2.2.2.2.1
  unfold wp_X8_numberOn_77 at hw
  refine lv_iload_n X.1 X.2.1 dX8_numberOn_77 rfl (lv_at hl 0 rfl) ?_
  refine j_iconst X dX8_numberOn_78 ?_
  refine j_iconst X dX8_numberOn_79 ?_
  refine k_i h (r_SN (As := [.int (iv x2), .int (iv 1), .int (iv 3)]) (rest := []) X h (c_X11_within l D ct ad L φ N0 σ x2 1 3 _ hw) rfl rfl ⟨Nat.le_of_ble_eq_true rfl, Nat.le_of_ble_eq_true rfl⟩ kw_693 kw_527 kw_120 kw_528 pd_X11_within rfl hl.1 rfl (Nat.le_of_ble_eq_true rfl) ⟨Nat.le_of_ble_eq_true rfl, Nat.le_of_ble_eq_true rfl⟩ dX8_numberOn_80) (fun r_2 σ_1 H locs hw h => ?_)
  obtain ⟨g_3, hwt, hwf⟩ := hw
  refine j_if_eq (tgt := 94) X g_3 dX8_numberOn_83 (by decide) (fun c_6 => ?_) (fun c_6 => ?_)
  · have hw := hwt c_6
    refine j_iconst X dX8_numberOn_94 ?_
    exact k_ir X rfl h hw dX8_numberOn_95
  · have hw := hwf c_6
    refine r_gets (v := .ref (ct 1001)) X h X.2.2.2.2.2.2.2.1.2.2.2.1.1 kw_694 dX8_numberOn_86 ?_
    refine lv_iload_n X.1 X.2.1 dX8_numberOn_89 rfl (lv_at hl 0 rfl) ?_
    obtain ⟨g_4, g_5, hw⟩ := hw
    refine r_ti (N := 4) X h X.2.2.2.2.2.2.2.1.2.2.2.1.2 (by decide) g_4 g_5 tb_2 dX8_numberOn_90 ?_
    refine lv_goto (tgt := 95) X.1 X.2.1 dX8_numberOn_91 (by decide) ?_
    exact k_ir X rfl h hw dX8_numberOn_95
set_option maxRecDepth 100000 in
set_option maxHeartbeats 4000000 in
theorem lb_X8_numberOn_71 (X : Cx p s m meth c args cX8_numberOn 7 (some .int) RX8 D ct L φ N0) {K29 : St → Int → Int → Int → Prop} {K63 : St → Int → Prop} {K77 : St → Int → Prop} (hK29 : ∀ (σ : St) (x2 : Int) (x3 : Int) (x5 : Int) (H : Heap) (locs : List Loc) (ls : Array Slot), K29 σ x2 x3 x5 → Hs D ct ad L φ N0 s.heap σ H locs → lv_has ls 7 [(0, .ref (ad 8 0)), (2, .int (iv x2)), (3, .int (iv x3)), (5, .int (iv x5))] → W p l e ({ frames := 3, cells := 0, slots := 0, locals := 65 } : Room) s m args below meth c H locs 0 0 (MQ below (Qi D ct ad L φ N0 Q) args s 0 0 (AA N0)) (F0 m 29 ls [])) (hK63 : ∀ (σ : St) (x6 : Int) (H : Heap) (locs : List Loc) (ls : Array Slot), K63 σ x6 → Hs D ct ad L φ N0 s.heap σ H locs → lv_has ls 7 [(0, .ref (ad 8 0)), (6, .int (iv x6))] → W p l e ({ frames := 3, cells := 0, slots := 0, locals := 65 } : Room) s m args below meth c H locs 0 0 (MQ below (Qi D ct ad L φ N0 Q) args s 0 0 (AA N0)) (F0 m 63 ls [])) (hK77 : ∀ (σ : St) (x2 : Int) (H : Heap) (locs : List Loc) (ls : Array Slot), K77 σ x2 → Hs D ct ad L φ N0 s.heap σ H locs → lv_has ls 7 [(2, .int (iv x2))] → W p l e ({ frames := 3, cells := 0, slots := 0, locals := 65 } : Room) s m args below meth c H locs 0 0 (MQ below (Qi D ct ad L φ N0 Q) args s 0 0 (AA N0)) (F0 m 77 ls [])) (σ : St) (x2 : Int) (x3 : Int) (x5 : Int) (H : Heap) (locs : List Loc) (ls : Array Slot) (hw : wp_X8_numberOn_71 K29 K63 K77 Q σ x2 x3 x5) (h : Hs D ct ad L φ N0 s.heap σ H locs) (hl : lv_has ls 7 [(0, .ref (ad 8 0)), (2, .int (iv x2)), (3, .int (iv x3)), (5, .int (iv x5))]) : W p l e ({ frames := 3, cells := 0, slots := 0, locals := 65 } : Room) s m args below meth c H locs 0 0 (MQ below (Qi D ct ad L φ N0 Q) args s 0 0 (AA N0)) (F0 m 71 ls []) := by
  have hF := X.2.2.2.2.2.2.2.2.1
  unfold wp_X8_numberOn_71 at hw
  refine j_iinc (kk9 := 3) (lv' := [(5, .int (iv (x5 + (-1)))), (0, .ref (ad 8 0)), (2, .int (iv x2)), (3, .int (iv x3))]) X dX8_numberOn_71 hl rfl (by decide) rfl (fun ls hl => ?_)
  refine lv_goto (tgt := 29) X.1 X.2.1 dX8_numberOn_74 (by decide) ?_
  exact hK29 σ x2 x3 (x5 + (-1)) _ _ _ hw h (lv_sub hl [1, 2, 3, 0] rfl)
set_option maxRecDepth 100000 in
set_option maxHeartbeats 4000000 in
theorem lb_X8_numberOn_63 (X : Cx p s m meth c args cX8_numberOn 7 (some .int) RX8 D ct L φ N0) (σ : St) (x6 : Int) (H : Heap) (locs : List Loc) (ls : Array Slot) (hw : wp_X8_numberOn_63 Q σ x6) (h : Hs D ct ad L φ N0 s.heap σ H locs) (hl : lv_has ls 7 [(0, .ref (ad 8 0)), (6, .int (iv x6))]) : W p l e ({ frames := 3, cells := 0, slots := 0, locals := 65 } : Room) s m args below meth c H locs 0 0 (MQ below (Qi D ct ad L φ N0 Q) args s 0 0 (AA N0)) (F0 m 63 ls []) := by
  have hF := X.2.2.2.2.2.2.2.2.1
  unfold wp_X8_numberOn_63 at hw
  refine lv_aload_n X.1 X.2.1 dX8_numberOn_63 rfl (lv_at hl 0 rfl) ?_
  refine r_getR (ci := 8) X inw_8 h (hF.1 8 rfl).1 rfl rfl 3 (by decide) kw_284 rfl ((hF.1 8 rfl).2 3) dX8_numberOn_64 ?_
  refine lv_iload X.1 X.2.1 dX8_numberOn_67 (lv_at hl 1 rfl) ?_
  obtain ⟨g_7, g_8, hw⟩ := hw
  refine r_iald (n := 240) X h (hF.1 69 rfl).1 rfl (by decide) g_7 g_8 dX8_numberOn_69 ?_
  exact k_ir X rfl h hw dX8_numberOn_70
set_option maxRecDepth 100000 in
set_option maxHeartbeats 4000000 in
theorem lb_X8_numberOn_29 (X : Cx p s m meth c args cX8_numberOn 7 (some .int) RX8 D ct L φ N0) {K63 : St → Int → Prop} {K77 : St → Int → Prop} (hK63 : ∀ (σ : St) (x6 : Int) (H : Heap) (locs : List Loc) (ls : Array Slot), K63 σ x6 → Hs D ct ad L φ N0 s.heap σ H locs → lv_has ls 7 [(0, .ref (ad 8 0)), (6, .int (iv x6))] → W p l e ({ frames := 3, cells := 0, slots := 0, locals := 65 } : Room) s m args below meth c H locs 0 0 (MQ below (Qi D ct ad L φ N0 Q) args s 0 0 (AA N0)) (F0 m 63 ls [])) (hK77 : ∀ (σ : St) (x2 : Int) (H : Heap) (locs : List Loc) (ls : Array Slot), K77 σ x2 → Hs D ct ad L φ N0 s.heap σ H locs → lv_has ls 7 [(2, .int (iv x2))] → W p l e ({ frames := 3, cells := 0, slots := 0, locals := 65 } : Room) s m args below meth c H locs 0 0 (MQ below (Qi D ct ad L φ N0 Q) args s 0 0 (AA N0)) (F0 m 77 ls [])) : ∀ (n : Nat) (σ : St) (x2 : Int) (x3 : Int) (x5 : Int) (H : Heap) (locs : List Loc) (ls : Array Slot), wp_X8_numberOn_29 K63 K77 Q n σ x2 x3 x5 → Hs D ct ad L φ N0 s.heap σ H locs → lv_has ls 7 [(0, .ref (ad 8 0)), (2, .int (iv x2)), (3, .int (iv x3)), (5, .int (iv x5))] → W p l e ({ frames := 3, cells := 0, slots := 0, locals := 65 } : Room) s m args below meth c H locs 0 0 (MQ below (Qi D ct ad L φ N0 Q) args s 0 0 (AA N0)) (F0 m 29 ls []) := by
  have hF := X.2.2.2.2.2.2.2.2.1
  intro n
  induction n with
  | zero => intro σ x2 x3 x5 H locs ls hw; exact hw.elim
  | succ n ih =>
    intro σ x2 x3 x5 H locs ls hw h hl
    unfold wp_X8_numberOn_29 at hw
    refine lv_iload X.1 X.2.1 dX8_numberOn_29 (lv_at hl 3 rfl) ?_
    obtain ⟨g_9, hwt, hwf⟩ := hw
    refine j_if_lt (tgt := 77) X g_9 dX8_numberOn_31 (by decide) (fun c_20 => ?_) (fun c_20 => ?_)
    · have hw := hwt c_20
      exact hK77 σ x2 _ _ _ hw h (lv_sub hl [1] rfl)
    · have hw := hwf c_20
      refine lv_iload_n X.1 X.2.1 dX8_numberOn_34 rfl (lv_at hl 2 rfl) ?_
      refine j_bipush X dX8_numberOn_35 (by decide) ?_
      refine j_imul X dX8_numberOn_37 ?_
      refine lv_iload X.1 X.2.1 dX8_numberOn_38 (lv_at hl 3 rfl) ?_
      refine j_iadd X dX8_numberOn_40 ?_
      refine j_bind (fun v_10 ev_10 => ?_)
      have hw := hw v_10 ev_10
      refine lv_istore (lv' := [(6, .int (iv v_10)), (0, .ref (ad 8 0)), (2, .int (iv x2)), (3, .int (iv x3)), (5, .int (iv x5))]) X.1 X.2.1 dX8_numberOn_41 hl (by decide) rfl (fun ls hl => ?_)
      refine lv_aload_n X.1 X.2.1 dX8_numberOn_43 rfl (lv_at hl 1 rfl) ?_
      refine r_getR (ci := 8) X inw_8 h (hF.1 8 rfl).1 rfl rfl 2 (by decide) kw_283 rfl ((hF.1 8 rfl).2 2) dX8_numberOn_44 ?_
      refine lv_iload X.1 X.2.1 dX8_numberOn_47 (lv_at hl 0 rfl) ?_
      obtain ⟨g_11, g_12, hw⟩ := hw
      refine r_iald (n := 240) X h (hF.1 68 rfl).1 rfl (by decide) g_11 g_12 dX8_numberOn_49 ?_
      refine lv_iload_n X.1 X.2.1 dX8_numberOn_50 rfl (lv_at hl 2 rfl) ?_
      obtain ⟨g_13, g_14, hwt, hwf⟩ := hw
      refine j_cmp_ne (tgt := 71) X g_13 g_14 dX8_numberOn_51 (by decide) (fun c_19 => ?_) (fun c_19 => ?_)
      · have hw := hwt c_19
        exact lb_X8_numberOn_71 X ih hK63 hK77 σ x2 x3 x5 _ _ _ hw h (lv_sub hl [1, 2, 3, 4] rfl)
      · have hw := hwf c_19
        refine lv_aload_n X.1 X.2.1 dX8_numberOn_54 rfl (lv_at hl 1 rfl) ?_
        refine lv_iload X.1 X.2.1 dX8_numberOn_55 (lv_at hl 0 rfl) ?_
        refine k_i h (r_V (C := RX8) (ci := 8) (As := [.int (iv v_10)]) (rest := []) X h (c_X8_holds l D ct ad L φ N0 σ v_10 _ hw) rfl rfl ⟨Nat.le_of_ble_eq_true rfl, Nat.le_of_ble_eq_true rfl⟩ kw_678 kw_680 kw_7 kw_125 kw_681 ⟨rfl, pd_X8_holds⟩ (hF.1 8 rfl).1 rfl rfl rfl hl.1 rfl (Nat.le_of_ble_eq_true rfl) ⟨Nat.le_of_ble_eq_true rfl, Nat.le_of_ble_eq_true rfl⟩ dX8_numberOn_57) (fun r_16 σ_15 H locs hw h => ?_)
        obtain ⟨g_17, hwt, hwf⟩ := hw
        refine j_if_eq (tgt := 71) X g_17 dX8_numberOn_60 (by decide) (fun c_18 => ?_) (fun c_18 => ?_)
        · have hw := hwt c_18
          exact lb_X8_numberOn_71 X ih hK63 hK77 σ_15 x2 x3 x5 _ _ _ hw h (lv_sub hl [1, 2, 3, 4] rfl)
        · have hw := hwf c_18
          exact hK63 σ_15 v_10 _ _ _ hw h (lv_sub hl [1, 0] rfl)
set_option maxRecDepth 100000 in
set_option maxHeartbeats 4000000 in
theorem lb_X8_numberOn_21 (X : Cx p s m meth c args cX8_numberOn 7 (some .int) RX8 D ct L φ N0) (σ : St) (x2 : Int) (x3 : Int) (y0 : Int) (H : Heap) (locs : List Loc) (ls : Array Slot) (hw : wp_X8_numberOn_21 Q σ x2 x3 y0) (h : Hs D ct ad L φ N0 s.heap σ H locs) (hl : lv_has ls 7 [(0, .ref (ad 8 0)), (2, .int (iv x2)), (3, .int (iv x3))]) : W p l e ({ frames := 3, cells := 0, slots := 0, locals := 65 } : Room) s m args below meth c H locs 0 0 (MQ below (Qi D ct ad L φ N0 Q) args s 0 0 (AA N0)) (F0 m 21 ls [.int (iv y0)]) := by
  have hF := X.2.2.2.2.2.2.2.2.1
  unfold wp_X8_numberOn_21 at hw
  refine lv_istore (lv' := [(4, .int (iv y0)), (0, .ref (ad 8 0)), (2, .int (iv x2)), (3, .int (iv x3))]) X.1 X.2.1 dX8_numberOn_21 hl (by decide) rfl (fun ls hl => ?_)
  refine lv_iload X.1 X.2.1 dX8_numberOn_23 (lv_at hl 0 rfl) ?_
  refine j_iconst X dX8_numberOn_25 ?_
  refine j_isub X dX8_numberOn_26 ?_
  refine j_bind (fun v_21 ev_21 => ?_)
  have hw := hw v_21 ev_21
  refine lv_istore (lv' := [(5, .int (iv v_21)), (4, .int (iv y0)), (0, .ref (ad 8 0)), (2, .int (iv x2)), (3, .int (iv x3))]) X.1 X.2.1 dX8_numberOn_27 hl (by decide) rfl (fun ls hl => ?_)
  exact hw.elim (fun n29 hw => lb_X8_numberOn_29 X (lb_X8_numberOn_63 X) (lb_X8_numberOn_77 X) n29 σ x2 x3 v_21 _ _ _ hw h (lv_sub hl [2, 3, 4, 0] rfl))
theorem pd_X8_numberOn : yX8_numberOn.cls ≠ "java/lang/invoke/MethodHandle" ∧ yX8_numberOn.cls ≠ "java/lang/invoke/VarHandle" ∧ (parseMethodDescriptor yX8_numberOn.desc).map (fun d => d.parameters.length) = some 2 := by decide +kernel
set_option maxRecDepth 100000 in
set_option maxHeartbeats 4000000 in
theorem c_X8_numberOn (l : Launch) (D : va_G) (ct : Nat → ClassId) (ad : Nat → Nat → Nat) (L : List (Nat × Nat)) (φ : Nat → Nat → Nat → Bool) (N0 : Nat) (σ : St) (x1 : Int) (x2 : Int) (Q : Int → St → Prop) (hw : wp_X8_numberOn σ x1 x2 Q) : Met l yX8_numberOn (.code yX8_numberOn cX8_numberOn 7 (some .int) :: gw) ({ frames := 3, cells := 0, slots := 0, locals := 65 } : Room) (Pm D ct ad L φ N0 σ [.ref (ad 8 0), .int (iv x1), .int (iv x2)]) (Qi D ct ad L φ N0 Q) 0 0 (AA N0) := by
  refine m_of (by decide) (fun p e s m below meth c X hnm h => ?_)
  have hF := X.2.2.2.2.2.2.2.2.1
  have hl := lv_entry ([.ref (ad 8 0), .int (iv x1), .int (iv x2)]) (n := 7) (Nat.le_of_ble_eq_true rfl)
  rw [lg_entry_eq]
  generalize (lg_sl ([.ref (ad 8 0), .int (iv x1), .int (iv x2)]) ++ List.replicate (7 - (lg_sl ([.ref (ad 8 0), .int (iv x1), .int (iv x2)])).length) Slot.unset).toArray = ls at hl ⊢
  have hl : lv_has ls 7 [(0, .ref (ad 8 0)), (1, .int (iv x1)), (2, .int (iv x2))] := hl
  have h : Hs D ct ad L φ N0 s.heap σ s.heap [] := h
  unfold wp_X8_numberOn at hw
  refine lv_aload_n X.1 X.2.1 dX8_numberOn_0 rfl (lv_at hl 0 rfl) ?_
  refine lv_iload_n X.1 X.2.1 dX8_numberOn_1 rfl (lv_at hl 1 rfl) ?_
  refine k_i h (r_V (C := RX8) (ci := 8) (As := [.int (iv x1)]) (rest := []) X h (c_X8_textOn l D ct ad L φ N0 σ x1 _ hw) rfl rfl ⟨Nat.le_of_ble_eq_true rfl, Nat.le_of_ble_eq_true rfl⟩ kw_674 kw_676 kw_6 kw_125 kw_677 ⟨rfl, pd_X8_textOn⟩ (hF.1 8 rfl).1 rfl rfl rfl hl.1 rfl (Nat.le_of_ble_eq_true rfl) ⟨Nat.le_of_ble_eq_true rfl, Nat.le_of_ble_eq_true rfl⟩ dX8_numberOn_2) (fun r_23 σ_22 H locs hw h => ?_)
  refine lv_istore_n (lv' := [(3, .int (iv r_23)), (0, .ref (ad 8 0)), (1, .int (iv x1)), (2, .int (iv x2))]) X.1 X.2.1 dX8_numberOn_5 rfl hl (by decide) rfl (fun ls hl => ?_)
  refine lv_iload_n X.1 X.2.1 dX8_numberOn_6 rfl (lv_at hl 0 rfl) ?_
  refine j_iconst X dX8_numberOn_7 ?_
  obtain ⟨g_24, hwt, hwf⟩ := hw
  refine j_cmp_ne (tgt := 15) X g_24 ⟨by decide, by decide⟩ dX8_numberOn_8 (by decide) (fun c_27 => ?_) (fun c_27 => ?_)
  · have hw := hwt c_27
    refine lv_aload_n X.1 X.2.1 dX8_numberOn_15 rfl (lv_at hl 1 rfl) ?_
    refine r_getR (ci := 8) X inw_8 h (hF.1 8 rfl).1 rfl rfl 1 (by decide) kw_282 rfl ((hF.1 8 rfl).2 1) dX8_numberOn_16 ?_
    refine lv_iload_n X.1 X.2.1 dX8_numberOn_19 rfl (lv_at hl 0 rfl) ?_
    obtain ⟨g_25, g_26, hw⟩ := hw
    refine r_iald (n := 20) X h (hF.1 67 rfl).1 rfl (by decide) g_25 g_26 dX8_numberOn_20 ?_
    exact lb_X8_numberOn_21 X σ_22 x2 r_23 (σ_22 67 0 (Int.toNat r_23)) _ _ _ hw h (lv_sub hl [1, 3, 0] rfl)
  · have hw := hwf c_27
    refine j_iconst X dX8_numberOn_11 ?_
    refine lv_goto (tgt := 21) X.1 X.2.1 dX8_numberOn_12 (by decide) ?_
    exact lb_X8_numberOn_21 X σ_22 x2 r_23 0 _ _ _ hw h (lv_sub hl [1, 3, 0] rfl)
end
section
variable {p : Program} {l : Launch} {e : Env} {s : State} {m : MethodId} {args : Array Value} {below : List Frame} {meth : Method} {c : Code} {D : va_G} {ct : Nat → ClassId} {ad : Nat → Nat → Nat} {L : List (Nat × Nat)} {φ : Nat → Nat → Nat → Bool} {N0 : Nat}
variable {Q : St → Prop}
set_option maxRecDepth 100000 in
set_option maxHeartbeats 4000000 in
theorem lb_X9_append_3 (X : Cx p s m meth c args cX9_append 3 none RX9 D ct L φ N0) : ∀ (n : Nat) (σ : St) (x1 : Int) (x2 : Int) (H : Heap) (locs : List Loc) (ls : Array Slot), wp_X9_append_3 Q n σ x1 x2 → Hs D ct ad L φ N0 s.heap σ H locs → lv_has ls 3 [(0, .ref (ad 9 0)), (1, .int (iv x1)), (2, .int (iv x2))] → W p l e ({ frames := 0, cells := 0, slots := 0, locals := 0 } : Room) s m args below meth c H locs 0 0 (MQ below (Qv D ct ad L φ N0 Q) args s 0 0 (AA N0)) (F0 m 3 ls []) := by
  have hF := X.2.2.2.2.2.2.2.2.1
  intro n
  induction n with
  | zero => intro σ x1 x2 H locs ls hw; exact hw.elim
  | succ n ih =>
    intro σ x1 x2 H locs ls hw h hl
    unfold wp_X9_append_3 at hw
    refine lv_iload_n X.1 X.2.1 dX9_append_3 rfl (lv_at hl 2 rfl) ?_
    obtain ⟨g_1, hwt, hwf⟩ := hw
    refine j_if_lt (tgt := 49) X g_1 dX9_append_4 (by decide) (fun c_8 => ?_) (fun c_8 => ?_)
    · have hw := hwt c_8
      exact k_vr X h hw dX9_append_49
    · have hw := hwf c_8
      refine lv_aload_n X.1 X.2.1 dX9_append_7 rfl (lv_at hl 0 rfl) ?_
      refine r_get (ci := 9) X inw_9 h (hF.1 9 rfl).1 rfl rfl 1 (by decide) kw_257 rfl dX9_append_8 ?_
      refine j_sipush X dX9_append_11 (by decide) ?_
      obtain ⟨g_2, hwt, hwf⟩ := hw
      refine j_cmp_ge (tgt := 49) X g_2 ⟨by decide, by decide⟩ dX9_append_14 (by decide) (fun c_7 => ?_) (fun c_7 => ?_)
      · have hw := hwt c_7
        exact k_vr X h hw dX9_append_49
      · have hw := hwf c_7
        refine lv_aload_n X.1 X.2.1 dX9_append_17 rfl (lv_at hl 0 rfl) ?_
        refine r_getR (ci := 9) X inw_9 h (hF.1 9 rfl).1 rfl rfl 0 (by decide) kw_256 rfl ((hF.1 9 rfl).2 0) dX9_append_18 ?_
        refine lv_aload_n X.1 X.2.1 dX9_append_21 rfl (lv_at hl 0 rfl) ?_
        refine r_get (ci := 9) X inw_9 h (hF.1 9 rfl).1 rfl rfl 1 (by decide) kw_257 rfl dX9_append_22 ?_
        refine lv_iload_n X.1 X.2.1 dX9_append_25 rfl (lv_at hl 1 rfl) ?_
        refine lv_iload_n X.1 X.2.1 dX9_append_26 rfl (lv_at hl 2 rfl) ?_
        refine j_iushr X dX9_append_27 ?_
        refine j_sipush X dX9_append_28 (by decide) ?_
        refine j_iand X dX9_append_31 ?_
        obtain ⟨g_3, g_4, hw⟩ := hw
        refine r_iast (n := 300) X h (hF.1 76 rfl).1 (fun _ => rfl) (by decide) g_3 g_4 rfl dX9_append_32 (fun H locs h => ?_)
        obtain ⟨σ_5, eσ_5⟩ : ∃ z : St, z = st σ 76 0 (Int.toNat (σ 9 0 1)) (i_iand (i_iushr x1 x2) 255) := ⟨_, rfl⟩
        rw [← eσ_5] at h
        have hw := hw σ_5 eσ_5
        refine lv_aload_n X.1 X.2.1 dX9_append_33 rfl (lv_at hl 0 rfl) ?_
        refine lv_dup X.1 X.2.1 dX9_append_34 rfl ?_
        refine r_get (ci := 9) X inw_9 h (hF.1 9 rfl).1 rfl rfl 1 (by decide) kw_257 rfl dX9_append_35 ?_
        refine j_iconst X dX9_append_38 ?_
        refine j_iadd X dX9_append_39 ?_
        refine r_put (ci := 9) X inw_9 tyX9 tyX9_ok nmX9 h (hF.1 9 rfl).1 rfl rfl 1 (by decide) kw_257 rfl rfl rfl (Nat.le_of_ble_eq_true rfl) rfl rfl dX9_append_40 (fun H locs h => ?_)
        obtain ⟨σ_6, eσ_6⟩ : ∃ z : St, z = st σ_5 9 0 1 ((σ_5 9 0 1) + 1) := ⟨_, rfl⟩
        rw [← eσ_6] at h
        have hw := hw σ_6 eσ_6
        refine j_iinc (kk9 := 2) (lv' := [(2, .int (iv (x2 + (-8)))), (0, .ref (ad 9 0)), (1, .int (iv x1))]) X dX9_append_43 hl rfl (by decide) rfl (fun ls hl => ?_)
        refine lv_goto (tgt := 3) X.1 X.2.1 dX9_append_46 (by decide) ?_
        exact ih σ_6 x1 (x2 + (-8)) _ _ _ hw h (lv_sub hl [1, 2, 0] rfl)
theorem pd_X9_append : yX9_append.cls ≠ "java/lang/invoke/MethodHandle" ∧ yX9_append.cls ≠ "java/lang/invoke/VarHandle" ∧ (parseMethodDescriptor yX9_append.desc).map (fun d => d.parameters.length) = some 1 := by decide +kernel
set_option maxRecDepth 100000 in
set_option maxHeartbeats 4000000 in
theorem c_X9_append (l : Launch) (D : va_G) (ct : Nat → ClassId) (ad : Nat → Nat → Nat) (L : List (Nat × Nat)) (φ : Nat → Nat → Nat → Bool) (N0 : Nat) (σ : St) (x1 : Int) (Q : St → Prop) (hw : wp_X9_append σ x1 Q) : Met l yX9_append (.code yX9_append cX9_append 3 none :: gw) ({ frames := 0, cells := 0, slots := 0, locals := 0 } : Room) (Pm D ct ad L φ N0 σ [.ref (ad 9 0), .int (iv x1)]) (Qv D ct ad L φ N0 Q) 0 0 (AA N0) := by
  refine m_of (by decide) (fun p e s m below meth c X hnm h => ?_)
  have hF := X.2.2.2.2.2.2.2.2.1
  have hl := lv_entry ([.ref (ad 9 0), .int (iv x1)]) (n := 3) (Nat.le_of_ble_eq_true rfl)
  rw [lg_entry_eq]
  generalize (lg_sl ([.ref (ad 9 0), .int (iv x1)]) ++ List.replicate (3 - (lg_sl ([.ref (ad 9 0), .int (iv x1)])).length) Slot.unset).toArray = ls at hl ⊢
  have hl : lv_has ls 3 [(0, .ref (ad 9 0)), (1, .int (iv x1))] := hl
  have h : Hs D ct ad L φ N0 s.heap σ s.heap [] := h
  unfold wp_X9_append at hw
  refine j_bipush X dX9_append_0 (by decide) ?_
  refine lv_istore_n (lv' := [(2, .int (iv 24)), (0, .ref (ad 9 0)), (1, .int (iv x1))]) X.1 X.2.1 dX9_append_2 rfl hl (by decide) rfl (fun ls hl => ?_)
  exact hw.elim (fun n3 hw => lb_X9_append_3 X n3 σ x1 24 _ _ _ hw h (lv_sub hl [1, 2, 0] rfl))
end
section
variable {p : Program} {l : Launch} {e : Env} {s : State} {m : MethodId} {args : Array Value} {below : List Frame} {meth : Method} {c : Code} {D : va_G} {ct : Nat → ClassId} {ad : Nat → Nat → Nat} {L : List (Nat × Nat)} {φ : Nat → Nat → Nat → Bool} {N0 : Nat}
variable {Q : Int → St → Prop}
set_option maxRecDepth 100000 in
set_option maxHeartbeats 4000000 in
theorem lb_X10_streamBears_14 (X : Cx p s m meth c args cX10_streamBears 4 (some .int) RX10 D ct L φ N0) (σ : St) (j0 : Nat) (x1 : Int) (y0 : Int) (H : Heap) (locs : List Loc) (ls : Array Slot) (hw : wp_X10_streamBears_14 Q σ j0 x1 y0) (h : Hs D ct ad L φ N0 s.heap σ H locs) (hl : lv_has ls 4 [(0, .ref (ad 10 j0)), (1, .int (iv x1)), (2, .ref (ad 7 0))]) : W p l e ({ frames := 1, cells := 0, slots := 0, locals := 20 } : Room) s m args below meth c H locs 0 0 (MQ below (Qi D ct ad L φ N0 Q) args s 0 0 (AA N0)) (F0 m 14 ls [.int (iv y0)]) := by
  have hF := X.2.2.2.2.2.2.2.2.1
  unfold wp_X10_streamBears_14 at hw
  refine lv_istore_n (lv' := [(3, .int (iv y0)), (0, .ref (ad 10 j0)), (1, .int (iv x1)), (2, .ref (ad 7 0))]) X.1 X.2.1 dX10_streamBears_14 rfl hl (by decide) rfl (fun ls hl => ?_)
  refine lv_iload_n X.1 X.2.1 dX10_streamBears_15 rfl (lv_at hl 0 rfl) ?_
  refine lv_iload_n X.1 X.2.1 dX10_streamBears_16 rfl (lv_at hl 2 rfl) ?_
  refine j_imul X dX10_streamBears_17 ?_
  refine lv_aload_n X.1 X.2.1 dX10_streamBears_18 rfl (lv_at hl 1 rfl) ?_
  obtain ⟨g_1, hw⟩ := hw
  refine r_get (ci := 10) X inw_10 h (h.2.2.2.1 j0 g_1) rfl rfl 4 (by decide) kw_826 rfl dX10_streamBears_19 ?_
  refine lv_aload_n X.1 X.2.1 dX10_streamBears_22 rfl (lv_at hl 3 rfl) ?_
  refine r_getN (ci := 7) X inw_7 h (hF.1 7 rfl).1 rfl rfl 3 (by decide) kw_163 rfl dX10_streamBears_23 ?_
  obtain ⟨g_2, g_3, hwt, hwf⟩ := hw
  refine j_cmp_ne (tgt := 34) X g_2 g_3 dX10_streamBears_26 (by decide) (fun c_4 => ?_) (fun c_4 => ?_)
  · have hw := hwt c_4
    refine j_iconst X dX10_streamBears_34 ?_
    refine j_iadd X dX10_streamBears_35 ?_
    exact k_ir X rfl h hw dX10_streamBears_36
  · have hw := hwf c_4
    refine j_bipush X dX10_streamBears_29 (by decide) ?_
    refine lv_goto (tgt := 35) X.1 X.2.1 dX10_streamBears_31 (by decide) ?_
    refine j_iadd X dX10_streamBears_35 ?_
    exact k_ir X rfl h hw dX10_streamBears_36
theorem pd_X10_streamBears : yX10_streamBears.cls ≠ "java/lang/invoke/MethodHandle" ∧ yX10_streamBears.cls ≠ "java/lang/invoke/VarHandle" ∧ (parseMethodDescriptor yX10_streamBears.desc).map (fun d => d.parameters.length) = some 2 := by decide +kernel
set_option maxRecDepth 100000 in
set_option maxHeartbeats 4000000 in
theorem c_X10_streamBears (l : Launch) (D : va_G) (ct : Nat → ClassId) (ad : Nat → Nat → Nat) (L : List (Nat × Nat)) (φ : Nat → Nat → Nat → Bool) (N0 : Nat) (σ : St) (j0 : Nat) (x1 : Int) (Q : Int → St → Prop) (hw : wp_X10_streamBears σ j0 x1 Q) : Met l yX10_streamBears (.code yX10_streamBears cX10_streamBears 4 (some .int) :: gw) ({ frames := 1, cells := 0, slots := 0, locals := 20 } : Room) (Pm D ct ad L φ N0 σ [.ref (ad 10 j0), .int (iv x1), .ref (ad 7 0)]) (Qi D ct ad L φ N0 Q) 0 0 (AA N0) := by
  refine m_of (by decide) (fun p e s m below meth c X hnm h => ?_)
  have hF := X.2.2.2.2.2.2.2.2.1
  have hl := lv_entry ([.ref (ad 10 j0), .int (iv x1), .ref (ad 7 0)]) (n := 4) (Nat.le_of_ble_eq_true rfl)
  rw [lg_entry_eq]
  generalize (lg_sl ([.ref (ad 10 j0), .int (iv x1), .ref (ad 7 0)]) ++ List.replicate (4 - (lg_sl ([.ref (ad 10 j0), .int (iv x1), .ref (ad 7 0)])).length) Slot.unset).toArray = ls at hl ⊢
  have hl : lv_has ls 4 [(0, .ref (ad 10 j0)), (1, .int (iv x1)), (2, .ref (ad 7 0))] := hl
  have h : Hs D ct ad L φ N0 s.heap σ s.heap [] := h
  unfold wp_X10_streamBears at hw
  refine lv_aload_n X.1 X.2.1 dX10_streamBears_0 rfl (lv_at hl 2 rfl) ?_
  refine k_i h (r_V (C := RX7) (ci := 7) (As := []) (rest := []) X h (c_X7_season l D ct ad L φ N0 σ _ hw) rfl rfl ⟨Nat.le_of_ble_eq_true rfl, Nat.le_of_ble_eq_true rfl⟩ kw_877 kw_658 kw_659 kw_121 kw_660 ⟨rfl, pd_X7_season⟩ (hF.1 7 rfl).1 rfl rfl rfl hl.1 rfl (Nat.le_of_ble_eq_true rfl) ⟨Nat.le_of_ble_eq_true rfl, Nat.le_of_ble_eq_true rfl⟩ dX10_streamBears_1) (fun r_6 σ_5 H locs hw h => ?_)
  refine j_iconst X dX10_streamBears_4 ?_
  obtain ⟨g_7, hwt, hwf⟩ := hw
  refine j_cmp_ne (tgt := 13) X g_7 ⟨by decide, by decide⟩ dX10_streamBears_5 (by decide) (fun c_8 => ?_) (fun c_8 => ?_)
  · have hw := hwt c_8
    refine j_iconst X dX10_streamBears_13 ?_
    exact lb_X10_streamBears_14 X σ_5 j0 x1 3 _ _ _ hw h (lv_sub hl [0, 1, 2] rfl)
  · have hw := hwf c_8
    refine j_bipush X dX10_streamBears_8 (by decide) ?_
    refine lv_goto (tgt := 14) X.1 X.2.1 dX10_streamBears_10 (by decide) ?_
    exact lb_X10_streamBears_14 X σ_5 j0 x1 12 _ _ _ hw h (lv_sub hl [0, 1, 2] rfl)
end
section
variable {p : Program} {l : Launch} {e : Env} {s : State} {m : MethodId} {args : Array Value} {below : List Frame} {meth : Method} {c : Code} {D : va_G} {ct : Nat → ClassId} {ad : Nat → Nat → Nat} {L : List (Nat × Nat)} {φ : Nat → Nat → Nat → Bool} {N0 : Nat}
variable {Q : Int → St → Prop}
theorem pd_X10_bears : yX10_bears.cls ≠ "java/lang/invoke/MethodHandle" ∧ yX10_bears.cls ≠ "java/lang/invoke/VarHandle" ∧ (parseMethodDescriptor yX10_bears.desc).map (fun d => d.parameters.length) = some 2 := by decide +kernel
set_option maxRecDepth 100000 in
set_option maxHeartbeats 4000000 in
theorem c_X10_bears (l : Launch) (D : va_G) (ct : Nat → ClassId) (ad : Nat → Nat → Nat) (L : List (Nat × Nat)) (φ : Nat → Nat → Nat → Bool) (N0 : Nat) (σ : St) (j0 : Nat) (Q : Int → St → Prop) (hw : wp_X10_bears σ j0 Q) : Met l yX10_bears (.code yX10_bears cX10_bears 6 (some .int) :: gw) ({ frames := 2, cells := 0, slots := 0, locals := 43 } : Room) (Pm D ct ad L φ N0 σ [.ref (ad 10 j0), .ref (ad 3 0), .ref (ad 7 0)]) (Qi D ct ad L φ N0 Q) 0 0 (AA N0) := by
  refine m_of (by decide) (fun p e s m below meth c X hnm h => ?_)
  have hF := X.2.2.2.2.2.2.2.2.1
  have hl := lv_entry ([.ref (ad 10 j0), .ref (ad 3 0), .ref (ad 7 0)]) (n := 6) (Nat.le_of_ble_eq_true rfl)
  rw [lg_entry_eq]
  generalize (lg_sl ([.ref (ad 10 j0), .ref (ad 3 0), .ref (ad 7 0)]) ++ List.replicate (6 - (lg_sl ([.ref (ad 10 j0), .ref (ad 3 0), .ref (ad 7 0)])).length) Slot.unset).toArray = ls at hl ⊢
  have hl : lv_has ls 6 [(0, .ref (ad 10 j0)), (1, .ref (ad 3 0)), (2, .ref (ad 7 0))] := hl
  have h : Hs D ct ad L φ N0 s.heap σ s.heap [] := h
  unfold wp_X10_bears at hw
  refine lv_aload_n X.1 X.2.1 dX10_bears_0 rfl (lv_at hl 1 rfl) ?_
  refine r_getRN (ci := 3) X inw_3 h (hF.1 3 rfl).1 rfl rfl 0 (by decide) kw_186 rfl ((hF.1 3 rfl).2 0) dX10_bears_1 ?_
  refine lv_aload_n X.1 X.2.1 dX10_bears_4 rfl (lv_at hl 0 rfl) ?_
  obtain ⟨g_1, hw⟩ := hw
  refine r_get (ci := 10) X inw_10 h (h.2.2.2.1 j0 g_1) rfl rfl 2 (by decide) kw_822 rfl dX10_bears_5 ?_
  obtain ⟨g_2, g_3, hw⟩ := hw
  refine r_iald (n := 64) X h (hF.1 28 rfl).1 rfl (by decide) g_2 g_3 dX10_bears_8 ?_
  refine lv_aload_n X.1 X.2.1 dX10_bears_9 rfl (lv_at hl 1 rfl) ?_
  refine r_getRN (ci := 3) X inw_3 h (hF.1 3 rfl).1 rfl rfl 0 (by decide) kw_186 rfl ((hF.1 3 rfl).2 0) dX10_bears_10 ?_
  refine lv_aload_n X.1 X.2.1 dX10_bears_13 rfl (lv_at hl 0 rfl) ?_
  obtain ⟨g_4, hw⟩ := hw
  refine r_get (ci := 10) X inw_10 h (h.2.2.2.1 j0 g_4) rfl rfl 1 (by decide) kw_820 rfl dX10_bears_14 ?_
  obtain ⟨g_5, g_6, hw⟩ := hw
  refine r_iald (n := 64) X h (hF.1 28 rfl).1 rfl (by decide) g_5 g_6 dX10_bears_17 ?_
  refine j_isub X dX10_bears_18 ?_
  refine j_bind (fun v_7 ev_7 => ?_)
  have hw := hw v_7 ev_7
  refine lv_istore_n (lv' := [(3, .int (iv v_7)), (0, .ref (ad 10 j0)), (1, .ref (ad 3 0)), (2, .ref (ad 7 0))]) X.1 X.2.1 dX10_bears_19 rfl hl (by decide) rfl (fun ls hl => ?_)
  refine lv_aload_n X.1 X.2.1 dX10_bears_20 rfl (lv_at hl 3 rfl) ?_
  refine j_iconst X dX10_bears_21 ?_
  refine k_i h (r_V (C := RX7) (ci := 7) (As := [.int (iv 0)]) (rest := []) X h (c_X7_now l D ct ad L φ N0 σ 0 _ hw) rfl rfl ⟨Nat.le_of_ble_eq_true rfl, Nat.le_of_ble_eq_true rfl⟩ kw_871 kw_662 kw_663 kw_121 kw_664 ⟨rfl, pd_X7_now⟩ (hF.1 7 rfl).1 rfl rfl rfl hl.1 rfl (Nat.le_of_ble_eq_true rfl) ⟨Nat.le_of_ble_eq_true rfl, Nat.le_of_ble_eq_true rfl⟩ dX10_bears_22) (fun r_9 σ_8 H locs hw h => ?_)
  refine lv_istore (lv' := [(4, .int (iv r_9)), (3, .int (iv v_7)), (0, .ref (ad 10 j0)), (1, .ref (ad 3 0)), (2, .ref (ad 7 0))]) X.1 X.2.1 dX10_bears_25 hl (by decide) rfl (fun ls hl => ?_)
  refine lv_aload_n X.1 X.2.1 dX10_bears_27 rfl (lv_at hl 4 rfl) ?_
  refine j_iconst X dX10_bears_28 ?_
  refine k_i h (r_V (C := RX7) (ci := 7) (As := [.int (iv 1)]) (rest := []) X h (c_X7_now l D ct ad L φ N0 σ_8 1 _ hw) rfl rfl ⟨Nat.le_of_ble_eq_true rfl, Nat.le_of_ble_eq_true rfl⟩ kw_871 kw_662 kw_663 kw_121 kw_664 ⟨rfl, pd_X7_now⟩ (hF.1 7 rfl).1 rfl rfl rfl hl.1 rfl (Nat.le_of_ble_eq_true rfl) ⟨Nat.le_of_ble_eq_true rfl, Nat.le_of_ble_eq_true rfl⟩ dX10_bears_29) (fun r_11 σ_10 H locs hw h => ?_)
  refine lv_istore (lv' := [(5, .int (iv r_11)), (4, .int (iv r_9)), (3, .int (iv v_7)), (0, .ref (ad 10 j0)), (1, .ref (ad 3 0)), (2, .ref (ad 7 0))]) X.1 X.2.1 dX10_bears_32 hl (by decide) rfl (fun ls hl => ?_)
  refine lv_aload_n X.1 X.2.1 dX10_bears_34 rfl (lv_at hl 3 rfl) ?_
  obtain ⟨g_12, hw⟩ := hw
  refine r_get (ci := 10) X inw_10 h (h.2.2.2.1 j0 g_12) rfl rfl 0 (by decide) kw_818 rfl dX10_bears_35 ?_
  obtain ⟨g_13, hw0, hw1, hw2, hw3, hw4⟩ := hw
  by_cases c_32 : (σ_10 10 j0 0) = 0
  · have hw := hw0 c_32
    refine j_tin (v := 0) (tgt := 68) X g_13 c_32 dX10_bears_38 (by decide) (by decide) rfl (by decide) ?_
    refine lv_iload X.1 X.2.1 dX10_bears_68 (lv_at hl 1 rfl) ?_
    refine j_bipush X dX10_bears_70 (by decide) ?_
    obtain ⟨g_14, hwt, hwf⟩ := hw
    refine j_cmp_le (tgt := 79) X g_14 ⟨by decide, by decide⟩ dX10_bears_72 (by decide) (fun c_19 => ?_) (fun c_19 => ?_)
    · have hw := hwt c_19
      refine j_iconst X dX10_bears_79 ?_
      refine j_bipush X dX10_bears_80 (by decide) ?_
      refine j_iconst X dX10_bears_82 ?_
      refine j_iconst X dX10_bears_83 ?_
      refine lv_iload_n X.1 X.2.1 dX10_bears_84 rfl (lv_at hl 2 rfl) ?_
      refine k_i h (r_S (As := [.int (iv 0), .int (iv v_7)]) (rest := [.int (iv 3), .int (iv 30), .int (iv 0)]) X h (c_J9_max_7cf53 l D ct ad L φ N0 σ_10 0 v_7 _ hw) rfl rfl ⟨Nat.le_of_ble_eq_true rfl, Nat.le_of_ble_eq_true rfl⟩ kw_872 kw_619 kw_130 kw_620 pd_J9_max_7cf53 rfl hl.1 rfl (Nat.le_of_ble_eq_true rfl) ⟨Nat.le_of_ble_eq_true rfl, Nat.le_of_ble_eq_true rfl⟩ dX10_bears_85) (fun r_16 σ_15 H locs hw h => ?_)
      refine j_imul X dX10_bears_88 ?_
      refine j_isub X dX10_bears_89 ?_
      refine lv_iload X.1 X.2.1 dX10_bears_90 (lv_at hl 1 rfl) ?_
      refine j_isub X dX10_bears_92 ?_
      refine k_i h (r_S (As := [.int (iv 0), .int (iv ((30 - (3 * r_16)) - r_9))]) (rest := []) X h (c_J9_max_7cf53 l D ct ad L φ N0 σ_15 0 ((30 - (3 * r_16)) - r_9) _ hw) rfl rfl ⟨Nat.le_of_ble_eq_true rfl, Nat.le_of_ble_eq_true rfl⟩ kw_872 kw_619 kw_130 kw_620 pd_J9_max_7cf53 rfl hl.1 rfl (Nat.le_of_ble_eq_true rfl) ⟨Nat.le_of_ble_eq_true rfl, Nat.le_of_ble_eq_true rfl⟩ dX10_bears_93) (fun r_18 σ_17 H locs hw h => ?_)
      exact k_ir X rfl h hw dX10_bears_96
    · have hw := hwf c_19
      refine j_iconst X dX10_bears_75 ?_
      refine lv_goto (tgt := 96) X.1 X.2.1 dX10_bears_76 (by decide) ?_
      exact k_ir X rfl h hw dX10_bears_96
  by_cases c_33 : (σ_10 10 j0 0) = 1
  · have hw := hw1 c_33
    refine j_tin (v := 1) (tgt := 97) X g_13 c_33 dX10_bears_38 (by decide) (by decide) rfl (by decide) ?_
    refine lv_aload_n X.1 X.2.1 dX10_bears_97 rfl (lv_at hl 3 rfl) ?_
    obtain ⟨g_20, hw⟩ := hw
    refine r_get (ci := 10) X inw_10 h (h.2.2.2.1 j0 g_20) rfl rfl 3 (by decide) kw_824 rfl dX10_bears_98 ?_
    obtain ⟨g_21, hwt, hwf⟩ := hw
    refine j_if_eq (tgt := 109) X g_21 dX10_bears_101 (by decide) (fun c_22 => ?_) (fun c_22 => ?_)
    · have hw := hwt c_22
      refine j_iconst X dX10_bears_109 ?_
      exact k_ir X rfl h hw dX10_bears_110
    · have hw := hwf c_22
      refine j_bipush X dX10_bears_104 (by decide) ?_
      refine lv_goto (tgt := 110) X.1 X.2.1 dX10_bears_106 (by decide) ?_
      exact k_ir X rfl h hw dX10_bears_110
  by_cases c_34 : (σ_10 10 j0 0) = 2
  · have hw := hw2 c_34
    refine j_tin (v := 2) (tgt := 111) X g_13 c_34 dX10_bears_38 (by decide) (by decide) rfl (by decide) ?_
    refine lv_iload_n X.1 X.2.1 dX10_bears_111 rfl (lv_at hl 2 rfl) ?_
    obtain ⟨g_23, hwt, hwf⟩ := hw
    refine j_if_ge (tgt := 123) X g_23 dX10_bears_112 (by decide) (fun c_24 => ?_) (fun c_24 => ?_)
    · have hw := hwt c_24
      refine j_iconst X dX10_bears_123 ?_
      exact k_ir X rfl h hw dX10_bears_124
    · have hw := hwf c_24
      refine j_bipush X dX10_bears_115 (by decide) ?_
      refine lv_iload X.1 X.2.1 dX10_bears_117 (lv_at hl 0 rfl) ?_
      refine j_imul X dX10_bears_119 ?_
      refine lv_goto (tgt := 124) X.1 X.2.1 dX10_bears_120 (by decide) ?_
      exact k_ir X rfl h hw dX10_bears_124
  by_cases c_35 : (σ_10 10 j0 0) = 3
  · have hw := hw3 c_35
    refine j_tin (v := 3) (tgt := 125) X g_13 c_35 dX10_bears_38 (by decide) (by decide) rfl (by decide) ?_
    refine lv_iload X.1 X.2.1 dX10_bears_125 (lv_at hl 1 rfl) ?_
    refine j_iconst X dX10_bears_127 ?_
    obtain ⟨g_25, hwt, hwf⟩ := hw
    refine j_cmp_lt (tgt := 136) X g_25 ⟨by decide, by decide⟩ dX10_bears_128 (by decide) (fun c_26 => ?_) (fun c_26 => ?_)
    · have hw := hwt c_26
      refine j_iconst X dX10_bears_136 ?_
      exact k_ir X rfl h hw dX10_bears_137
    · have hw := hwf c_26
      refine j_bipush X dX10_bears_131 (by decide) ?_
      refine lv_goto (tgt := 137) X.1 X.2.1 dX10_bears_133 (by decide) ?_
      exact k_ir X rfl h hw dX10_bears_137
  have c_36 : (σ_10 10 j0 0) < 0 ∨ 3 < (σ_10 10 j0 0) := by omega
  have hw := hw4 c_36
  refine j_tout (tgt := 138) X g_13 c_36 dX10_bears_38 (by decide) ?_
  refine lv_iload_n X.1 X.2.1 dX10_bears_138 rfl (lv_at hl 2 rfl) ?_
  obtain ⟨g_27, hwt, hwf⟩ := hw
  refine j_if_ge (tgt := 152) X g_27 dX10_bears_139 (by decide) (fun c_31 => ?_) (fun c_31 => ?_)
  · have hw := hwt c_31
    refine j_iconst X dX10_bears_152 ?_
    exact k_ir X rfl h hw dX10_bears_153
  · have hw := hwf c_31
    refine lv_aload_n X.1 X.2.1 dX10_bears_142 rfl (lv_at hl 3 rfl) ?_
    refine lv_iload X.1 X.2.1 dX10_bears_143 (lv_at hl 0 rfl) ?_
    refine lv_aload_n X.1 X.2.1 dX10_bears_145 rfl (lv_at hl 5 rfl) ?_
    obtain ⟨g_28, hw⟩ := hw
    refine k_i h (r_V (C := RX10) (ci := 10) (As := [.int (iv r_11), .ref (ad 7 0)]) (rest := []) X h (c_X10_streamBears l D ct ad L φ N0 σ_10 j0 r_11 _ hw) rfl rfl ⟨Nat.le_of_ble_eq_true rfl, Nat.le_of_ble_eq_true rfl⟩ kw_873 kw_875 kw_16 kw_132 kw_876 ⟨rfl, pd_X10_streamBears⟩ (h.2.2.2.1 j0 g_28) rfl rfl rfl hl.1 rfl (Nat.le_of_ble_eq_true rfl) ⟨Nat.le_of_ble_eq_true rfl, Nat.le_of_ble_eq_true rfl⟩ dX10_bears_146) (fun r_30 σ_29 H locs hw h => ?_)
    refine lv_goto (tgt := 153) X.1 X.2.1 dX10_bears_149 (by decide) ?_
    exact k_ir X rfl h hw dX10_bears_153
end
section
variable {p : Program} {l : Launch} {e : Env} {s : State} {m : MethodId} {args : Array Value} {below : List Frame} {meth : Method} {c : Code} {D : va_G} {ct : Nat → ClassId} {ad : Nat → Nat → Nat} {L : List (Nat × Nat)} {φ : Nat → Nat → Nat → Bool} {N0 : Nat}
variable {Q : Int → St → Prop}
theorem pd_X11_isCell : yX11_isCell.cls ≠ "java/lang/invoke/MethodHandle" ∧ yX11_isCell.cls ≠ "java/lang/invoke/VarHandle" ∧ (parseMethodDescriptor yX11_isCell.desc).map (fun d => d.parameters.length) = some 1 := by decide +kernel
set_option maxRecDepth 100000 in
set_option maxHeartbeats 4000000 in
theorem c_X11_isCell (l : Launch) (D : va_G) (ct : Nat → ClassId) (ad : Nat → Nat → Nat) (L : List (Nat × Nat)) (φ : Nat → Nat → Nat → Bool) (N0 : Nat) (σ : St) (x0 : Int) (Q : Int → St → Prop) (hw : wp_X11_isCell σ x0 Q) : Met l yX11_isCell (.code yX11_isCell cX11_isCell 1 (some .boolean) :: gw) ({ frames := 1, cells := 0, slots := 0, locals := 22 } : Room) (Pm D ct ad L φ N0 σ [.int (iv x0)]) (Qi D ct ad L φ N0 Q) 0 0 (AA N0) := by
  refine m_of (by decide) (fun p e s m below meth c X hnm h => ?_)
  have hF := X.2.2.2.2.2.2.2.2.1
  have hl := lv_entry ([.int (iv x0)]) (n := 1) (Nat.le_of_ble_eq_true rfl)
  rw [lg_entry_eq]
  generalize (lg_sl ([.int (iv x0)]) ++ List.replicate (1 - (lg_sl ([.int (iv x0)])).length) Slot.unset).toArray = ls at hl ⊢
  have hl : lv_has ls 1 [(0, .int (iv x0))] := hl
  have h : Hs D ct ad L φ N0 s.heap σ s.heap [] := h
  unfold wp_X11_isCell at hw
  refine lv_iload_n X.1 X.2.1 dX11_isCell_0 rfl (lv_at hl 0 rfl) ?_
  refine j_iconst X dX11_isCell_1 ?_
  refine j_bipush X dX11_isCell_2 (by decide) ?_
  refine k_i h (r_S (As := [.int (iv x0), .int (iv 0), .int (iv 63)]) (rest := []) X h (c_X11_within l D ct ad L φ N0 σ x0 0 63 _ hw) rfl rfl ⟨Nat.le_of_ble_eq_true rfl, Nat.le_of_ble_eq_true rfl⟩ kw_526 kw_527 kw_120 kw_528 pd_X11_within rfl hl.1 rfl (Nat.le_of_ble_eq_true rfl) ⟨Nat.le_of_ble_eq_true rfl, Nat.le_of_ble_eq_true rfl⟩ dX11_isCell_4) (fun r_2 σ_1 H locs hw h => ?_)
  obtain ⟨g_3, hw⟩ := hw
  exact k_ir X (nb_n g_3) h hw dX11_isCell_7
end
section
variable {p : Program} {l : Launch} {e : Env} {s : State} {m : MethodId} {args : Array Value} {below : List Frame} {meth : Method} {c : Code} {D : va_G} {ct : Nat → ClassId} {ad : Nat → Nat → Nat} {L : List (Nat × Nat)} {φ : Nat → Nat → Nat → Bool} {N0 : Nat}
variable {Q : Int → St → Prop}
theorem pd_X11_cell : yX11_cell.cls ≠ "java/lang/invoke/MethodHandle" ∧ yX11_cell.cls ≠ "java/lang/invoke/VarHandle" ∧ (parseMethodDescriptor yX11_cell.desc).map (fun d => d.parameters.length) = some 2 := by decide +kernel
set_option maxRecDepth 100000 in
set_option maxHeartbeats 4000000 in
theorem c_X11_cell (l : Launch) (D : va_G) (ct : Nat → ClassId) (ad : Nat → Nat → Nat) (L : List (Nat × Nat)) (φ : Nat → Nat → Nat → Bool) (N0 : Nat) (σ : St) (x1 : Int) (x2 : Int) (Q : Int → St → Prop) (hw : wp_X11_cell σ x1 x2 Q) : Met l yX11_cell (.code yX11_cell cX11_cell 3 (some .boolean) :: gw) ({ frames := 2, cells := 0, slots := 0, locals := 42 } : Room) (Pm D ct ad L φ N0 σ [.ref (ad 11 0), .int (iv x1), .int (iv x2)]) (Qi D ct ad L φ N0 Q) 0 0 (AA N0) := by
  refine m_of (by decide) (fun p e s m below meth c X hnm h => ?_)
  have hF := X.2.2.2.2.2.2.2.2.1
  have hl := lv_entry ([.ref (ad 11 0), .int (iv x1), .int (iv x2)]) (n := 3) (Nat.le_of_ble_eq_true rfl)
  rw [lg_entry_eq]
  generalize (lg_sl ([.ref (ad 11 0), .int (iv x1), .int (iv x2)]) ++ List.replicate (3 - (lg_sl ([.ref (ad 11 0), .int (iv x1), .int (iv x2)])).length) Slot.unset).toArray = ls at hl ⊢
  have hl : lv_has ls 3 [(0, .ref (ad 11 0)), (1, .int (iv x1)), (2, .int (iv x2))] := hl
  have h : Hs D ct ad L φ N0 s.heap σ s.heap [] := h
  unfold wp_X11_cell at hw
  refine lv_iload_n X.1 X.2.1 dX11_cell_0 rfl (lv_at hl 1 rfl) ?_
  refine k_i h (r_S (As := [.int (iv x1)]) (rest := []) X h (c_X11_isCell l D ct ad L φ N0 σ x1 _ hw) rfl rfl ⟨Nat.le_of_ble_eq_true rfl, Nat.le_of_ble_eq_true rfl⟩ kw_523 kw_524 kw_120 kw_525 pd_X11_isCell rfl hl.1 rfl (Nat.le_of_ble_eq_true rfl) ⟨Nat.le_of_ble_eq_true rfl, Nat.le_of_ble_eq_true rfl⟩ dX11_cell_1) (fun r_2 σ_1 H locs hw h => ?_)
  obtain ⟨g_3, hwt, hwf⟩ := hw
  refine j_if_eq (tgt := 17) X g_3 dX11_cell_4 (by decide) (fun c_11 => ?_) (fun c_11 => ?_)
  · have hw := hwt c_11
    refine j_iconst X dX11_cell_17 ?_
    exact k_ir X rfl h hw dX11_cell_18
  · have hw := hwf c_11
    refine lv_iload_n X.1 X.2.1 dX11_cell_7 rfl (lv_at hl 2 rfl) ?_
    refine j_iconst X dX11_cell_8 ?_
    refine j_bipush X dX11_cell_9 (by decide) ?_
    refine k_i h (r_S (As := [.int (iv x2), .int (iv 0), .int (iv 40)]) (rest := []) X h (c_X11_within l D ct ad L φ N0 σ_1 x2 0 40 _ hw) rfl rfl ⟨Nat.le_of_ble_eq_true rfl, Nat.le_of_ble_eq_true rfl⟩ kw_526 kw_527 kw_120 kw_528 pd_X11_within rfl hl.1 rfl (Nat.le_of_ble_eq_true rfl) ⟨Nat.le_of_ble_eq_true rfl, Nat.le_of_ble_eq_true rfl⟩ dX11_cell_11) (fun r_5 σ_4 H locs hw h => ?_)
    obtain ⟨g_6, hwt, hwf⟩ := hw
    refine j_if_ne (tgt := 19) X g_6 dX11_cell_14 (by decide) (fun c_10 => ?_) (fun c_10 => ?_)
    · have hw := hwt c_10
      refine lv_aload_n X.1 X.2.1 dX11_cell_19 rfl (lv_at hl 0 rfl) ?_
      refine r_getR (ci := 11) X inw_11 h (hF.1 11 rfl).1 rfl rfl 1 (by decide) kw_459 rfl ((hF.1 11 rfl).2 1) dX11_cell_20 ?_
      refine r_getRN (ci := 3) X inw_3 h (hF.1 3 rfl).1 rfl rfl 0 (by decide) kw_187 rfl ((hF.1 3 rfl).2 0) dX11_cell_23 ?_
      refine lv_iload_n X.1 X.2.1 dX11_cell_26 rfl (lv_at hl 1 rfl) ?_
      refine lv_iload_n X.1 X.2.1 dX11_cell_27 rfl (lv_at hl 2 rfl) ?_
      obtain ⟨g_7, g_8, hw⟩ := hw
      refine r_iast (n := 64) X h (hF.1 28 rfl).1 (fun _ => rfl) (by decide) g_7 g_8 rfl dX11_cell_28 (fun H locs h => ?_)
      obtain ⟨σ_9, eσ_9⟩ : ∃ z : St, z = st σ_4 28 0 (Int.toNat x1) x2 := ⟨_, rfl⟩
      rw [← eσ_9] at h
      have hw := hw σ_9 eσ_9
      refine j_iconst X dX11_cell_29 ?_
      exact k_ir X rfl h hw dX11_cell_30
    · have hw := hwf c_10
      refine j_iconst X dX11_cell_17 ?_
      exact k_ir X rfl h hw dX11_cell_18
end
section
variable {p : Program} {l : Launch} {e : Env} {s : State} {m : MethodId} {args : Array Value} {below : List Frame} {meth : Method} {c : Code} {D : va_G} {ct : Nat → ClassId} {ad : Nat → Nat → Nat} {L : List (Nat × Nat)} {φ : Nat → Nat → Nat → Bool} {N0 : Nat}
variable {Q : Int → St → Prop}
theorem pd_X11_isStem : yX11_isStem.cls ≠ "java/lang/invoke/MethodHandle" ∧ yX11_isStem.cls ≠ "java/lang/invoke/VarHandle" ∧ (parseMethodDescriptor yX11_isStem.desc).map (fun d => d.parameters.length) = some 2 := by decide +kernel
set_option maxRecDepth 100000 in
set_option maxHeartbeats 4000000 in
theorem c_X11_isStem (l : Launch) (D : va_G) (ct : Nat → ClassId) (ad : Nat → Nat → Nat) (L : List (Nat × Nat)) (φ : Nat → Nat → Nat → Bool) (N0 : Nat) (σ : St) (x0 : Int) (x1 : Int) (Q : Int → St → Prop) (hw : wp_X11_isStem σ x0 x1 Q) : Met l yX11_isStem (.code yX11_isStem cX11_isStem 2 (some .boolean) :: gw) ({ frames := 1, cells := 0, slots := 0, locals := 22 } : Room) (Pm D ct ad L φ N0 σ [.int (iv x0), .int (iv x1)]) (Qi D ct ad L φ N0 Q) 0 0 (AA N0) := by
  refine m_of (by decide) (fun p e s m below meth c X hnm h => ?_)
  have hF := X.2.2.2.2.2.2.2.2.1
  have hl := lv_entry ([.int (iv x0), .int (iv x1)]) (n := 2) (Nat.le_of_ble_eq_true rfl)
  rw [lg_entry_eq]
  generalize (lg_sl ([.int (iv x0), .int (iv x1)]) ++ List.replicate (2 - (lg_sl ([.int (iv x0), .int (iv x1)])).length) Slot.unset).toArray = ls at hl ⊢
  have hl : lv_has ls 2 [(0, .int (iv x0)), (1, .int (iv x1))] := hl
  have h : Hs D ct ad L φ N0 s.heap σ s.heap [] := h
  unfold wp_X11_isStem at hw
  refine lv_iload_n X.1 X.2.1 dX11_isStem_0 rfl (lv_at hl 0 rfl) ?_
  refine j_iconst X dX11_isStem_1 ?_
  refine j_iconst X dX11_isStem_2 ?_
  refine k_i h (r_S (As := [.int (iv x0), .int (iv 0), .int (iv 3)]) (rest := []) X h (c_X11_within l D ct ad L φ N0 σ x0 0 3 _ hw) rfl rfl ⟨Nat.le_of_ble_eq_true rfl, Nat.le_of_ble_eq_true rfl⟩ kw_526 kw_527 kw_120 kw_528 pd_X11_within rfl hl.1 rfl (Nat.le_of_ble_eq_true rfl) ⟨Nat.le_of_ble_eq_true rfl, Nat.le_of_ble_eq_true rfl⟩ dX11_isStem_3) (fun r_2 σ_1 H locs hw h => ?_)
  obtain ⟨g_3, hwt, hwf⟩ := hw
  refine j_if_eq (tgt := 22) X g_3 dX11_isStem_6 (by decide) (fun c_8 => ?_) (fun c_8 => ?_)
  · have hw := hwt c_8
    refine j_iconst X dX11_isStem_22 ?_
    exact k_ir X rfl h hw dX11_isStem_23
  · have hw := hwf c_8
    refine lv_iload_n X.1 X.2.1 dX11_isStem_9 rfl (lv_at hl 1 rfl) ?_
    refine j_iconst X dX11_isStem_10 ?_
    refine j_iconst X dX11_isStem_11 ?_
    refine k_i h (r_S (As := [.int (iv x1), .int (iv 0), .int (iv 3)]) (rest := []) X h (c_X11_within l D ct ad L φ N0 σ_1 x1 0 3 _ hw) rfl rfl ⟨Nat.le_of_ble_eq_true rfl, Nat.le_of_ble_eq_true rfl⟩ kw_526 kw_527 kw_120 kw_528 pd_X11_within rfl hl.1 rfl (Nat.le_of_ble_eq_true rfl) ⟨Nat.le_of_ble_eq_true rfl, Nat.le_of_ble_eq_true rfl⟩ dX11_isStem_12) (fun r_5 σ_4 H locs hw h => ?_)
    obtain ⟨g_6, hwt, hwf⟩ := hw
    refine j_if_eq (tgt := 22) X g_6 dX11_isStem_15 (by decide) (fun c_7 => ?_) (fun c_7 => ?_)
    · have hw := hwt c_7
      refine j_iconst X dX11_isStem_22 ?_
      exact k_ir X rfl h hw dX11_isStem_23
    · have hw := hwf c_7
      refine j_iconst X dX11_isStem_18 ?_
      refine lv_goto (tgt := 23) X.1 X.2.1 dX11_isStem_19 (by decide) ?_
      exact k_ir X rfl h hw dX11_isStem_23
end
section
variable {p : Program} {l : Launch} {e : Env} {s : State} {m : MethodId} {args : Array Value} {below : List Frame} {meth : Method} {c : Code} {D : va_G} {ct : Nat → ClassId} {ad : Nat → Nat → Nat} {L : List (Nat × Nat)} {φ : Nat → Nat → Nat → Bool} {N0 : Nat}
variable {Q : Int → St → Prop}
theorem pd_X11_stand : yX11_stand.cls ≠ "java/lang/invoke/MethodHandle" ∧ yX11_stand.cls ≠ "java/lang/invoke/VarHandle" ∧ (parseMethodDescriptor yX11_stand.desc).map (fun d => d.parameters.length) = some 4 := by decide +kernel
set_option maxRecDepth 100000 in
set_option maxHeartbeats 4000000 in
theorem c_X11_stand (l : Launch) (D : va_G) (ct : Nat → ClassId) (ad : Nat → Nat → Nat) (L : List (Nat × Nat)) (φ : Nat → Nat → Nat → Bool) (N0 : Nat) (σ : St) (x1 : Int) (x2 : Int) (x3 : Int) (x4 : Int) (Q : Int → St → Prop) (hw : wp_X11_stand σ x1 x2 x3 x4 Q) : Met l yX11_stand (.code yX11_stand cX11_stand 5 (some .boolean) :: gw) ({ frames := 2, cells := 0, slots := 0, locals := 43 } : Room) (Pm D ct ad L φ N0 σ [.ref (ad 11 0), .int (iv x1), .int (iv x2), .int (iv x3), .int (iv x4)]) (Qi D ct ad L φ N0 Q) 0 0 (AA N0) := by
  refine m_of (by decide) (fun p e s m below meth c X hnm h => ?_)
  have hF := X.2.2.2.2.2.2.2.2.1
  have hl := lv_entry ([.ref (ad 11 0), .int (iv x1), .int (iv x2), .int (iv x3), .int (iv x4)]) (n := 5) (Nat.le_of_ble_eq_true rfl)
  rw [lg_entry_eq]
  generalize (lg_sl ([.ref (ad 11 0), .int (iv x1), .int (iv x2), .int (iv x3), .int (iv x4)]) ++ List.replicate (5 - (lg_sl ([.ref (ad 11 0), .int (iv x1), .int (iv x2), .int (iv x3), .int (iv x4)])).length) Slot.unset).toArray = ls at hl ⊢
  have hl : lv_has ls 5 [(0, .ref (ad 11 0)), (1, .int (iv x1)), (2, .int (iv x2)), (3, .int (iv x3)), (4, .int (iv x4))] := hl
  have h : Hs D ct ad L φ N0 s.heap σ s.heap [] := h
  unfold wp_X11_stand at hw
  refine lv_iload_n X.1 X.2.1 dX11_stand_0 rfl (lv_at hl 1 rfl) ?_
  refine k_i h (r_S (As := [.int (iv x1)]) (rest := []) X h (c_X11_isCell l D ct ad L φ N0 σ x1 _ hw) rfl rfl ⟨Nat.le_of_ble_eq_true rfl, Nat.le_of_ble_eq_true rfl⟩ kw_523 kw_524 kw_120 kw_525 pd_X11_isCell rfl hl.1 rfl (Nat.le_of_ble_eq_true rfl) ⟨Nat.le_of_ble_eq_true rfl, Nat.le_of_ble_eq_true rfl⟩ dX11_stand_1) (fun r_2 σ_1 H locs hw h => ?_)
  obtain ⟨g_3, hwt, hwf⟩ := hw
  refine j_if_eq (tgt := 27) X g_3 dX11_stand_4 (by decide) (fun c_17 => ?_) (fun c_17 => ?_)
  · have hw := hwt c_17
    refine j_iconst X dX11_stand_27 ?_
    exact k_ir X rfl h hw dX11_stand_28
  · have hw := hwf c_17
    refine lv_iload_n X.1 X.2.1 dX11_stand_7 rfl (lv_at hl 2 rfl) ?_
    refine lv_iload_n X.1 X.2.1 dX11_stand_8 rfl (lv_at hl 3 rfl) ?_
    refine k_i h (r_S (As := [.int (iv x2), .int (iv x3)]) (rest := []) X h (c_X11_isStem l D ct ad L φ N0 σ_1 x2 x3 _ hw) rfl rfl ⟨Nat.le_of_ble_eq_true rfl, Nat.le_of_ble_eq_true rfl⟩ kw_533 kw_534 kw_120 kw_535 pd_X11_isStem rfl hl.1 rfl (Nat.le_of_ble_eq_true rfl) ⟨Nat.le_of_ble_eq_true rfl, Nat.le_of_ble_eq_true rfl⟩ dX11_stand_9) (fun r_5 σ_4 H locs hw h => ?_)
    obtain ⟨g_6, hwt, hwf⟩ := hw
    refine j_if_eq (tgt := 27) X g_6 dX11_stand_12 (by decide) (fun c_16 => ?_) (fun c_16 => ?_)
    · have hw := hwt c_16
      refine j_iconst X dX11_stand_27 ?_
      exact k_ir X rfl h hw dX11_stand_28
    · have hw := hwf c_16
      refine lv_iload X.1 X.2.1 dX11_stand_15 (lv_at hl 4 rfl) ?_
      refine j_iconst X dX11_stand_17 ?_
      refine j_sipush X dX11_stand_18 (by decide) ?_
      refine k_i h (r_S (As := [.int (iv x4), .int (iv 0), .int (iv 200)]) (rest := []) X h (c_X11_within l D ct ad L φ N0 σ_4 x4 0 200 _ hw) rfl rfl ⟨Nat.le_of_ble_eq_true rfl, Nat.le_of_ble_eq_true rfl⟩ kw_526 kw_527 kw_120 kw_528 pd_X11_within rfl hl.1 rfl (Nat.le_of_ble_eq_true rfl) ⟨Nat.le_of_ble_eq_true rfl, Nat.le_of_ble_eq_true rfl⟩ dX11_stand_21) (fun r_8 σ_7 H locs hw h => ?_)
      obtain ⟨g_9, hwt, hwf⟩ := hw
      refine j_if_ne (tgt := 29) X g_9 dX11_stand_24 (by decide) (fun c_15 => ?_) (fun c_15 => ?_)
      · have hw := hwt c_15
        refine lv_aload_n X.1 X.2.1 dX11_stand_29 rfl (lv_at hl 0 rfl) ?_
        refine r_getR (ci := 11) X inw_11 h (hF.1 11 rfl).1 rfl rfl 1 (by decide) kw_459 rfl ((hF.1 11 rfl).2 1) dX11_stand_30 ?_
        refine r_getRN (ci := 3) X inw_3 h (hF.1 3 rfl).1 rfl rfl 2 (by decide) kw_193 rfl ((hF.1 3 rfl).2 2) dX11_stand_33 ?_
        refine lv_iload_n X.1 X.2.1 dX11_stand_36 rfl (lv_at hl 1 rfl) ?_
        refine lv_iload_n X.1 X.2.1 dX11_stand_37 rfl (lv_at hl 2 rfl) ?_
        refine lv_iload_n X.1 X.2.1 dX11_stand_38 rfl (lv_at hl 3 rfl) ?_
        refine k_i h (r_S (As := [.int (iv x1), .int (iv x2), .int (iv x3)]) (rest := [.ref (ad 30 0)]) X h (c_X3_stemPlace l D ct ad L φ N0 σ_7 x1 x2 x3 _ hw) rfl rfl ⟨Nat.le_of_ble_eq_true rfl, Nat.le_of_ble_eq_true rfl⟩ kw_536 kw_537 kw_122 kw_538 pd_X3_stemPlace rfl hl.1 rfl (Nat.le_of_ble_eq_true rfl) ⟨Nat.le_of_ble_eq_true rfl, Nat.le_of_ble_eq_true rfl⟩ dX11_stand_39) (fun r_11 σ_10 H locs hw h => ?_)
        refine lv_iload X.1 X.2.1 dX11_stand_42 (lv_at hl 4 rfl) ?_
        obtain ⟨g_12, g_13, hw⟩ := hw
        refine r_iast (n := 1024) X h (hF.1 30 rfl).1 (fun _ => rfl) (by decide) g_12 g_13 rfl dX11_stand_44 (fun H locs h => ?_)
        obtain ⟨σ_14, eσ_14⟩ : ∃ z : St, z = st σ_10 30 0 (Int.toNat r_11) x4 := ⟨_, rfl⟩
        rw [← eσ_14] at h
        have hw := hw σ_14 eσ_14
        refine j_iconst X dX11_stand_45 ?_
        exact k_ir X rfl h hw dX11_stand_46
      · have hw := hwf c_15
        refine j_iconst X dX11_stand_27 ?_
        exact k_ir X rfl h hw dX11_stand_28
end
section
variable {p : Program} {l : Launch} {e : Env} {s : State} {m : MethodId} {args : Array Value} {below : List Frame} {meth : Method} {c : Code} {D : va_G} {ct : Nat → ClassId} {ad : Nat → Nat → Nat} {L : List (Nat × Nat)} {φ : Nat → Nat → Nat → Bool} {N0 : Nat}
variable {Q : Int → St → Prop}
theorem pd_X11_sort : yX11_sort.cls ≠ "java/lang/invoke/MethodHandle" ∧ yX11_sort.cls ≠ "java/lang/invoke/VarHandle" ∧ (parseMethodDescriptor yX11_sort.desc).map (fun d => d.parameters.length) = some 3 := by decide +kernel
set_option maxRecDepth 100000 in
set_option maxHeartbeats 4000000 in
theorem c_X11_sort (l : Launch) (D : va_G) (ct : Nat → ClassId) (ad : Nat → Nat → Nat) (L : List (Nat × Nat)) (φ : Nat → Nat → Nat → Bool) (N0 : Nat) (σ : St) (x1 : Int) (x2 : Int) (x3 : Int) (Q : Int → St → Prop) (hw : wp_X11_sort σ x1 x2 x3 Q) : Met l yX11_sort (.code yX11_sort cX11_sort 4 (some .boolean) :: gw) ({ frames := 1, cells := 0, slots := 0, locals := 22 } : Room) (Pm D ct ad L φ N0 σ [.ref (ad 11 0), .int (iv x1), .int (iv x2), .int (iv x3)]) (Qi D ct ad L φ N0 Q) 0 0 (AA N0) := by
  refine m_of (by decide) (fun p e s m below meth c X hnm h => ?_)
  have hF := X.2.2.2.2.2.2.2.2.1
  have hl := lv_entry ([.ref (ad 11 0), .int (iv x1), .int (iv x2), .int (iv x3)]) (n := 4) (Nat.le_of_ble_eq_true rfl)
  rw [lg_entry_eq]
  generalize (lg_sl ([.ref (ad 11 0), .int (iv x1), .int (iv x2), .int (iv x3)]) ++ List.replicate (4 - (lg_sl ([.ref (ad 11 0), .int (iv x1), .int (iv x2), .int (iv x3)])).length) Slot.unset).toArray = ls at hl ⊢
  have hl : lv_has ls 4 [(0, .ref (ad 11 0)), (1, .int (iv x1)), (2, .int (iv x2)), (3, .int (iv x3))] := hl
  have h : Hs D ct ad L φ N0 s.heap σ s.heap [] := h
  unfold wp_X11_sort at hw
  refine lv_iload_n X.1 X.2.1 dX11_sort_0 rfl (lv_at hl 1 rfl) ?_
  refine j_iconst X dX11_sort_1 ?_
  refine j_iconst X dX11_sort_2 ?_
  refine k_i h (r_S (As := [.int (iv x1), .int (iv 0), .int (iv 3)]) (rest := []) X h (c_X11_within l D ct ad L φ N0 σ x1 0 3 _ hw) rfl rfl ⟨Nat.le_of_ble_eq_true rfl, Nat.le_of_ble_eq_true rfl⟩ kw_526 kw_527 kw_120 kw_528 pd_X11_within rfl hl.1 rfl (Nat.le_of_ble_eq_true rfl) ⟨Nat.le_of_ble_eq_true rfl, Nat.le_of_ble_eq_true rfl⟩ dX11_sort_3) (fun r_2 σ_1 H locs hw h => ?_)
  obtain ⟨g_3, hwt, hwf⟩ := hw
  refine j_if_eq (tgt := 28) X g_3 dX11_sort_6 (by decide) (fun c_18 => ?_) (fun c_18 => ?_)
  · have hw := hwt c_18
    refine j_iconst X dX11_sort_28 ?_
    exact k_ir X rfl h hw dX11_sort_29
  · have hw := hwf c_18
    refine lv_iload_n X.1 X.2.1 dX11_sort_9 rfl (lv_at hl 2 rfl) ?_
    refine j_iconst X dX11_sort_10 ?_
    refine j_bipush X dX11_sort_11 (by decide) ?_
    refine k_i h (r_S (As := [.int (iv x2), .int (iv 0), .int (iv 100)]) (rest := []) X h (c_X11_within l D ct ad L φ N0 σ_1 x2 0 100 _ hw) rfl rfl ⟨Nat.le_of_ble_eq_true rfl, Nat.le_of_ble_eq_true rfl⟩ kw_526 kw_527 kw_120 kw_528 pd_X11_within rfl hl.1 rfl (Nat.le_of_ble_eq_true rfl) ⟨Nat.le_of_ble_eq_true rfl, Nat.le_of_ble_eq_true rfl⟩ dX11_sort_13) (fun r_5 σ_4 H locs hw h => ?_)
    obtain ⟨g_6, hwt, hwf⟩ := hw
    refine j_if_eq (tgt := 28) X g_6 dX11_sort_16 (by decide) (fun c_17 => ?_) (fun c_17 => ?_)
    · have hw := hwt c_17
      refine j_iconst X dX11_sort_28 ?_
      exact k_ir X rfl h hw dX11_sort_29
    · have hw := hwf c_17
      refine lv_iload_n X.1 X.2.1 dX11_sort_19 rfl (lv_at hl 3 rfl) ?_
      refine j_iconst X dX11_sort_20 ?_
      refine j_iconst X dX11_sort_21 ?_
      refine k_i h (r_S (As := [.int (iv x3), .int (iv 1), .int (iv 3)]) (rest := []) X h (c_X11_within l D ct ad L φ N0 σ_4 x3 1 3 _ hw) rfl rfl ⟨Nat.le_of_ble_eq_true rfl, Nat.le_of_ble_eq_true rfl⟩ kw_526 kw_527 kw_120 kw_528 pd_X11_within rfl hl.1 rfl (Nat.le_of_ble_eq_true rfl) ⟨Nat.le_of_ble_eq_true rfl, Nat.le_of_ble_eq_true rfl⟩ dX11_sort_22) (fun r_8 σ_7 H locs hw h => ?_)
      obtain ⟨g_9, hwt, hwf⟩ := hw
      refine j_if_ne (tgt := 30) X g_9 dX11_sort_25 (by decide) (fun c_16 => ?_) (fun c_16 => ?_)
      · have hw := hwt c_16
        refine lv_aload_n X.1 X.2.1 dX11_sort_30 rfl (lv_at hl 0 rfl) ?_
        refine r_getR (ci := 11) X inw_11 h (hF.1 11 rfl).1 rfl rfl 1 (by decide) kw_459 rfl ((hF.1 11 rfl).2 1) dX11_sort_31 ?_
        refine r_getRN (ci := 3) X inw_3 h (hF.1 3 rfl).1 rfl rfl 4 (by decide) kw_197 rfl ((hF.1 3 rfl).2 4) dX11_sort_34 ?_
        refine lv_iload_n X.1 X.2.1 dX11_sort_37 rfl (lv_at hl 1 rfl) ?_
        refine lv_iload_n X.1 X.2.1 dX11_sort_38 rfl (lv_at hl 2 rfl) ?_
        obtain ⟨g_10, g_11, hw⟩ := hw
        refine r_iast (n := 4) X h (hF.1 32 rfl).1 (fun _ => rfl) (by decide) g_10 g_11 rfl dX11_sort_39 (fun H locs h => ?_)
        obtain ⟨σ_12, eσ_12⟩ : ∃ z : St, z = st σ_7 32 0 (Int.toNat x1) x2 := ⟨_, rfl⟩
        rw [← eσ_12] at h
        have hw := hw σ_12 eσ_12
        refine lv_aload_n X.1 X.2.1 dX11_sort_40 rfl (lv_at hl 0 rfl) ?_
        refine r_getR (ci := 11) X inw_11 h (hF.1 11 rfl).1 rfl rfl 1 (by decide) kw_459 rfl ((hF.1 11 rfl).2 1) dX11_sort_41 ?_
        refine r_getRN (ci := 3) X inw_3 h (hF.1 3 rfl).1 rfl rfl 5 (by decide) kw_199 rfl ((hF.1 3 rfl).2 5) dX11_sort_44 ?_
        refine lv_iload_n X.1 X.2.1 dX11_sort_47 rfl (lv_at hl 1 rfl) ?_
        refine lv_iload_n X.1 X.2.1 dX11_sort_48 rfl (lv_at hl 3 rfl) ?_
        obtain ⟨g_13, g_14, hw⟩ := hw
        refine r_iast (n := 4) X h (hF.1 33 rfl).1 (fun _ => rfl) (by decide) g_13 g_14 rfl dX11_sort_49 (fun H locs h => ?_)
        obtain ⟨σ_15, eσ_15⟩ : ∃ z : St, z = st σ_12 33 0 (Int.toNat x1) x3 := ⟨_, rfl⟩
        rw [← eσ_15] at h
        have hw := hw σ_15 eσ_15
        refine j_iconst X dX11_sort_50 ?_
        exact k_ir X rfl h hw dX11_sort_51
      · have hw := hwf c_16
        refine j_iconst X dX11_sort_28 ?_
        exact k_ir X rfl h hw dX11_sort_29
end
section
variable {p : Program} {l : Launch} {e : Env} {s : State} {m : MethodId} {args : Array Value} {below : List Frame} {meth : Method} {c : Code} {D : va_G} {ct : Nat → ClassId} {ad : Nat → Nat → Nat} {L : List (Nat × Nat)} {φ : Nat → Nat → Nat → Bool} {N0 : Nat}
variable {Q : Int → St → Prop}
theorem pd_X11_mill : yX11_mill.cls ≠ "java/lang/invoke/MethodHandle" ∧ yX11_mill.cls ≠ "java/lang/invoke/VarHandle" ∧ (parseMethodDescriptor yX11_mill.desc).map (fun d => d.parameters.length) = some 1 := by decide +kernel
set_option maxRecDepth 100000 in
set_option maxHeartbeats 4000000 in
theorem c_X11_mill (l : Launch) (D : va_G) (ct : Nat → ClassId) (ad : Nat → Nat → Nat) (L : List (Nat × Nat)) (φ : Nat → Nat → Nat → Bool) (N0 : Nat) (σ : St) (x1 : Int) (Q : Int → St → Prop) (hw : wp_X11_mill σ x1 Q) : Met l yX11_mill (.code yX11_mill cX11_mill 2 (some .boolean) :: gw) ({ frames := 2, cells := 0, slots := 0, locals := 42 } : Room) (Pm D ct ad L φ N0 σ [.ref (ad 11 0), .int (iv x1)]) (Qi D ct ad L φ N0 Q) 0 0 (AA N0) := by
  refine m_of (by decide) (fun p e s m below meth c X hnm h => ?_)
  have hF := X.2.2.2.2.2.2.2.2.1
  have hl := lv_entry ([.ref (ad 11 0), .int (iv x1)]) (n := 2) (Nat.le_of_ble_eq_true rfl)
  rw [lg_entry_eq]
  generalize (lg_sl ([.ref (ad 11 0), .int (iv x1)]) ++ List.replicate (2 - (lg_sl ([.ref (ad 11 0), .int (iv x1)])).length) Slot.unset).toArray = ls at hl ⊢
  have hl : lv_has ls 2 [(0, .ref (ad 11 0)), (1, .int (iv x1))] := hl
  have h : Hs D ct ad L φ N0 s.heap σ s.heap [] := h
  unfold wp_X11_mill at hw
  refine lv_iload_n X.1 X.2.1 dX11_mill_0 rfl (lv_at hl 1 rfl) ?_
  refine k_i h (r_S (As := [.int (iv x1)]) (rest := []) X h (c_X11_isCell l D ct ad L φ N0 σ x1 _ hw) rfl rfl ⟨Nat.le_of_ble_eq_true rfl, Nat.le_of_ble_eq_true rfl⟩ kw_523 kw_524 kw_120 kw_525 pd_X11_isCell rfl hl.1 rfl (Nat.le_of_ble_eq_true rfl) ⟨Nat.le_of_ble_eq_true rfl, Nat.le_of_ble_eq_true rfl⟩ dX11_mill_1) (fun r_2 σ_1 H locs hw h => ?_)
  obtain ⟨g_3, hwt, hwf⟩ := hw
  refine j_if_eq (tgt := 14) X g_3 dX11_mill_4 (by decide) (fun c_7 => ?_) (fun c_7 => ?_)
  · have hw := hwt c_7
    refine j_iconst X dX11_mill_14 ?_
    exact k_ir X rfl h hw dX11_mill_15
  · have hw := hwf c_7
    refine lv_aload_n X.1 X.2.1 dX11_mill_7 rfl (lv_at hl 0 rfl) ?_
    refine r_get (ci := 11) X inw_11 h (hF.1 11 rfl).1 rfl rfl 4 (by decide) kw_462 rfl dX11_mill_8 ?_
    obtain ⟨g_4, hwt, hwf⟩ := hw
    refine j_if_le (tgt := 16) X g_4 dX11_mill_11 (by decide) (fun c_6 => ?_) (fun c_6 => ?_)
    · have hw := hwt c_6
      refine lv_aload_n X.1 X.2.1 dX11_mill_16 rfl (lv_at hl 0 rfl) ?_
      refine r_getR (ci := 11) X inw_11 h (hF.1 11 rfl).1 rfl rfl 1 (by decide) kw_459 rfl ((hF.1 11 rfl).2 1) dX11_mill_17 ?_
      refine lv_iload_n X.1 X.2.1 dX11_mill_20 rfl (lv_at hl 1 rfl) ?_
      refine r_putN (ci := 3) X inw_3 tyX3 tyX3_ok nmX3 h (hF.1 3 rfl).1 rfl rfl 6 (by decide) kw_201 rfl rfl rfl (Nat.le_of_ble_eq_true rfl) rfl rfl dX11_mill_21 (fun H locs h => ?_)
      obtain ⟨σ_5, eσ_5⟩ : ∃ z : St, z = st σ_1 3 0 6 x1 := ⟨_, rfl⟩
      rw [← eσ_5] at h
      have hw := hw σ_5 eσ_5
      refine j_iconst X dX11_mill_24 ?_
      exact k_ir X rfl h hw dX11_mill_25
    · have hw := hwf c_6
      refine j_iconst X dX11_mill_14 ?_
      exact k_ir X rfl h hw dX11_mill_15
end
section
variable {p : Program} {l : Launch} {e : Env} {s : State} {m : MethodId} {args : Array Value} {below : List Frame} {meth : Method} {c : Code} {D : va_G} {ct : Nat → ClassId} {ad : Nat → Nat → Nat} {L : List (Nat × Nat)} {φ : Nat → Nat → Nat → Bool} {N0 : Nat}
variable {Q : Int → St → Prop}
theorem pd_X11_weather : yX11_weather.cls ≠ "java/lang/invoke/MethodHandle" ∧ yX11_weather.cls ≠ "java/lang/invoke/VarHandle" ∧ (parseMethodDescriptor yX11_weather.desc).map (fun d => d.parameters.length) = some 4 := by decide +kernel
set_option maxRecDepth 100000 in
set_option maxHeartbeats 4000000 in
theorem c_X11_weather (l : Launch) (D : va_G) (ct : Nat → ClassId) (ad : Nat → Nat → Nat) (L : List (Nat × Nat)) (φ : Nat → Nat → Nat → Bool) (N0 : Nat) (σ : St) (x1 : Int) (x2 : Int) (x3 : Int) (x4 : Int) (Q : Int → St → Prop) (hw : wp_X11_weather σ x1 x2 x3 x4 Q) : Met l yX11_weather (.code yX11_weather cX11_weather 5 (some .boolean) :: gw) ({ frames := 2, cells := 0, slots := 0, locals := 47 } : Room) (Pm D ct ad L φ N0 σ [.ref (ad 11 0), .int (iv x1), .int (iv x2), .int (iv x3), .int (iv x4)]) (Qi D ct ad L φ N0 Q) 0 0 (AA N0) := by
  refine m_of (by decide) (fun p e s m below meth c X hnm h => ?_)
  have hF := X.2.2.2.2.2.2.2.2.1
  have hl := lv_entry ([.ref (ad 11 0), .int (iv x1), .int (iv x2), .int (iv x3), .int (iv x4)]) (n := 5) (Nat.le_of_ble_eq_true rfl)
  rw [lg_entry_eq]
  generalize (lg_sl ([.ref (ad 11 0), .int (iv x1), .int (iv x2), .int (iv x3), .int (iv x4)]) ++ List.replicate (5 - (lg_sl ([.ref (ad 11 0), .int (iv x1), .int (iv x2), .int (iv x3), .int (iv x4)])).length) Slot.unset).toArray = ls at hl ⊢
  have hl : lv_has ls 5 [(0, .ref (ad 11 0)), (1, .int (iv x1)), (2, .int (iv x2)), (3, .int (iv x3)), (4, .int (iv x4))] := hl
  have h : Hs D ct ad L φ N0 s.heap σ s.heap [] := h
  unfold wp_X11_weather at hw
  refine lv_aload_n X.1 X.2.1 dX11_weather_0 rfl (lv_at hl 0 rfl) ?_
  refine r_getR (ci := 11) X inw_11 h (hF.1 11 rfl).1 rfl rfl 0 (by decide) kw_458 rfl ((hF.1 11 rfl).2 0) dX11_weather_1 ?_
  refine lv_iload_n X.1 X.2.1 dX11_weather_4 rfl (lv_at hl 1 rfl) ?_
  refine lv_iload_n X.1 X.2.1 dX11_weather_5 rfl (lv_at hl 2 rfl) ?_
  refine lv_iload_n X.1 X.2.1 dX11_weather_6 rfl (lv_at hl 3 rfl) ?_
  refine lv_iload X.1 X.2.1 dX11_weather_7 (lv_at hl 4 rfl) ?_
  refine k_i h (r_V (C := RX7) (ci := 7) (As := [.int (iv x1), .int (iv x2), .int (iv x3), .int (iv x4)]) (rest := []) X h (c_X7_tell l D ct ad L φ N0 σ x1 x2 x3 x4 _ hw) rfl rfl ⟨Nat.le_of_ble_eq_true rfl, Nat.le_of_ble_eq_true rfl⟩ kw_551 kw_552 kw_553 kw_121 kw_554 ⟨rfl, pd_X7_tell⟩ (hF.1 7 rfl).1 rfl rfl rfl hl.1 rfl (Nat.le_of_ble_eq_true rfl) ⟨Nat.le_of_ble_eq_true rfl, Nat.le_of_ble_eq_true rfl⟩ dX11_weather_9) (fun r_2 σ_1 H locs hw h => ?_)
  obtain ⟨g_3, hw⟩ := hw
  exact k_ir X (nb_n g_3) h hw dX11_weather_12
end
section
variable {p : Program} {l : Launch} {e : Env} {s : State} {m : MethodId} {args : Array Value} {below : List Frame} {meth : Method} {c : Code} {D : va_G} {ct : Nat → ClassId} {ad : Nat → Nat → Nat} {L : List (Nat × Nat)} {φ : Nat → Nat → Nat → Bool} {N0 : Nat}
variable {Q : Int → St → Prop}
theorem pd_X11_isDay : yX11_isDay.cls ≠ "java/lang/invoke/MethodHandle" ∧ yX11_isDay.cls ≠ "java/lang/invoke/VarHandle" ∧ (parseMethodDescriptor yX11_isDay.desc).map (fun d => d.parameters.length) = some 1 := by decide +kernel
set_option maxRecDepth 100000 in
set_option maxHeartbeats 4000000 in
theorem c_X11_isDay (l : Launch) (D : va_G) (ct : Nat → ClassId) (ad : Nat → Nat → Nat) (L : List (Nat × Nat)) (φ : Nat → Nat → Nat → Bool) (N0 : Nat) (σ : St) (x0 : Int) (Q : Int → St → Prop) (hw : wp_X11_isDay σ x0 Q) : Met l yX11_isDay (.code yX11_isDay cX11_isDay 1 (some .boolean) :: gw) ({ frames := 1, cells := 0, slots := 0, locals := 22 } : Room) (Pm D ct ad L φ N0 σ [.int (iv x0)]) (Qi D ct ad L φ N0 Q) 0 0 (AA N0) := by
  refine m_of (by decide) (fun p e s m below meth c X hnm h => ?_)
  have hF := X.2.2.2.2.2.2.2.2.1
  have hl := lv_entry ([.int (iv x0)]) (n := 1) (Nat.le_of_ble_eq_true rfl)
  rw [lg_entry_eq]
  generalize (lg_sl ([.int (iv x0)]) ++ List.replicate (1 - (lg_sl ([.int (iv x0)])).length) Slot.unset).toArray = ls at hl ⊢
  have hl : lv_has ls 1 [(0, .int (iv x0))] := hl
  have h : Hs D ct ad L φ N0 s.heap σ s.heap [] := h
  unfold wp_X11_isDay at hw
  refine lv_iload_n X.1 X.2.1 dX11_isDay_0 rfl (lv_at hl 0 rfl) ?_
  refine j_iconst X dX11_isDay_1 ?_
  refine j_sipush X dX11_isDay_2 (by decide) ?_
  refine k_i h (r_S (As := [.int (iv x0), .int (iv 0), .int (iv 3999)]) (rest := []) X h (c_X11_within l D ct ad L φ N0 σ x0 0 3999 _ hw) rfl rfl ⟨Nat.le_of_ble_eq_true rfl, Nat.le_of_ble_eq_true rfl⟩ kw_526 kw_527 kw_120 kw_528 pd_X11_within rfl hl.1 rfl (Nat.le_of_ble_eq_true rfl) ⟨Nat.le_of_ble_eq_true rfl, Nat.le_of_ble_eq_true rfl⟩ dX11_isDay_5) (fun r_2 σ_1 H locs hw h => ?_)
  obtain ⟨g_3, hw⟩ := hw
  exact k_ir X (nb_n g_3) h hw dX11_isDay_8
end
section
variable {p : Program} {l : Launch} {e : Env} {s : State} {m : MethodId} {args : Array Value} {below : List Frame} {meth : Method} {c : Code} {D : va_G} {ct : Nat → ClassId} {ad : Nat → Nat → Nat} {L : List (Nat × Nat)} {φ : Nat → Nat → Nat → Bool} {N0 : Nat}
variable {Q : Int → St → Prop}
theorem pd_X11_weatherOf : yX11_weatherOf.cls ≠ "java/lang/invoke/MethodHandle" ∧ yX11_weatherOf.cls ≠ "java/lang/invoke/VarHandle" ∧ (parseMethodDescriptor yX11_weatherOf.desc).map (fun d => d.parameters.length) = some 2 := by decide +kernel
set_option maxRecDepth 100000 in
set_option maxHeartbeats 4000000 in
theorem c_X11_weatherOf (l : Launch) (D : va_G) (ct : Nat → ClassId) (ad : Nat → Nat → Nat) (L : List (Nat × Nat)) (φ : Nat → Nat → Nat → Bool) (N0 : Nat) (σ : St) (x1 : Int) (x2 : Int) (Q : Int → St → Prop) (hw : wp_X11_weatherOf σ x1 x2 Q) : Met l yX11_weatherOf (.code yX11_weatherOf cX11_weatherOf 3 (some .int) :: gw) ({ frames := 2, cells := 0, slots := 0, locals := 45 } : Room) (Pm D ct ad L φ N0 σ [.ref (ad 11 0), .int (iv x1), .int (iv x2)]) (Qi D ct ad L φ N0 Q) 0 0 (AA N0) := by
  refine m_of (by decide) (fun p e s m below meth c X hnm h => ?_)
  have hF := X.2.2.2.2.2.2.2.2.1
  have hl := lv_entry ([.ref (ad 11 0), .int (iv x1), .int (iv x2)]) (n := 3) (Nat.le_of_ble_eq_true rfl)
  rw [lg_entry_eq]
  generalize (lg_sl ([.ref (ad 11 0), .int (iv x1), .int (iv x2)]) ++ List.replicate (3 - (lg_sl ([.ref (ad 11 0), .int (iv x1), .int (iv x2)])).length) Slot.unset).toArray = ls at hl ⊢
  have hl : lv_has ls 3 [(0, .ref (ad 11 0)), (1, .int (iv x1)), (2, .int (iv x2))] := hl
  have h : Hs D ct ad L φ N0 s.heap σ s.heap [] := h
  unfold wp_X11_weatherOf at hw
  refine lv_iload_n X.1 X.2.1 dX11_weatherOf_0 rfl (lv_at hl 1 rfl) ?_
  refine k_i h (r_S (As := [.int (iv x1)]) (rest := []) X h (c_X11_isDay l D ct ad L φ N0 σ x1 _ hw) rfl rfl ⟨Nat.le_of_ble_eq_true rfl, Nat.le_of_ble_eq_true rfl⟩ kw_564 kw_565 kw_120 kw_566 pd_X11_isDay rfl hl.1 rfl (Nat.le_of_ble_eq_true rfl) ⟨Nat.le_of_ble_eq_true rfl, Nat.le_of_ble_eq_true rfl⟩ dX11_weatherOf_1) (fun r_2 σ_1 H locs hw h => ?_)
  obtain ⟨g_3, hwt, hwf⟩ := hw
  refine j_if_eq (tgt := 16) X g_3 dX11_weatherOf_4 (by decide) (fun c_10 => ?_) (fun c_10 => ?_)
  · have hw := hwt c_10
    refine j_iconst X dX11_weatherOf_16 ?_
    exact k_ir X rfl h hw dX11_weatherOf_17
  · have hw := hwf c_10
    refine lv_iload_n X.1 X.2.1 dX11_weatherOf_7 rfl (lv_at hl 2 rfl) ?_
    refine j_iconst X dX11_weatherOf_8 ?_
    refine j_iconst X dX11_weatherOf_9 ?_
    refine k_i h (r_S (As := [.int (iv x2), .int (iv 0), .int (iv 2)]) (rest := []) X h (c_X11_within l D ct ad L φ N0 σ_1 x2 0 2 _ hw) rfl rfl ⟨Nat.le_of_ble_eq_true rfl, Nat.le_of_ble_eq_true rfl⟩ kw_526 kw_527 kw_120 kw_528 pd_X11_within rfl hl.1 rfl (Nat.le_of_ble_eq_true rfl) ⟨Nat.le_of_ble_eq_true rfl, Nat.le_of_ble_eq_true rfl⟩ dX11_weatherOf_10) (fun r_5 σ_4 H locs hw h => ?_)
    obtain ⟨g_6, hwt, hwf⟩ := hw
    refine j_if_ne (tgt := 18) X g_6 dX11_weatherOf_13 (by decide) (fun c_9 => ?_) (fun c_9 => ?_)
    · have hw := hwt c_9
      refine lv_aload_n X.1 X.2.1 dX11_weatherOf_18 rfl (lv_at hl 0 rfl) ?_
      refine r_getR (ci := 11) X inw_11 h (hF.1 11 rfl).1 rfl rfl 0 (by decide) kw_458 rfl ((hF.1 11 rfl).2 0) dX11_weatherOf_19 ?_
      refine lv_iload_n X.1 X.2.1 dX11_weatherOf_22 rfl (lv_at hl 1 rfl) ?_
      refine lv_iload_n X.1 X.2.1 dX11_weatherOf_23 rfl (lv_at hl 2 rfl) ?_
      refine k_i h (r_V (C := RX7) (ci := 7) (As := [.int (iv x1), .int (iv x2)]) (rest := []) X h (c_X7_on l D ct ad L φ N0 σ_4 x1 x2 _ hw) rfl rfl ⟨Nat.le_of_ble_eq_true rfl, Nat.le_of_ble_eq_true rfl⟩ kw_567 kw_568 kw_569 kw_121 kw_570 ⟨rfl, pd_X7_on⟩ (hF.1 7 rfl).1 rfl rfl rfl hl.1 rfl (Nat.le_of_ble_eq_true rfl) ⟨Nat.le_of_ble_eq_true rfl, Nat.le_of_ble_eq_true rfl⟩ dX11_weatherOf_24) (fun r_8 σ_7 H locs hw h => ?_)
      exact k_ir X rfl h hw dX11_weatherOf_27
    · have hw := hwf c_9
      refine j_iconst X dX11_weatherOf_16 ?_
      exact k_ir X rfl h hw dX11_weatherOf_17
end
section
variable {p : Program} {l : Launch} {e : Env} {s : State} {m : MethodId} {args : Array Value} {below : List Frame} {meth : Method} {c : Code} {D : va_G} {ct : Nat → ClassId} {ad : Nat → Nat → Nat} {L : List (Nat × Nat)} {φ : Nat → Nat → Nat → Bool} {N0 : Nat}
variable {Q : Int → St → Prop}
theorem pd_X11_of : yX11_of.cls ≠ "java/lang/invoke/MethodHandle" ∧ yX11_of.cls ≠ "java/lang/invoke/VarHandle" ∧ (parseMethodDescriptor yX11_of.desc).map (fun d => d.parameters.length) = some 2 := by decide +kernel
set_option maxRecDepth 100000 in
set_option maxHeartbeats 4000000 in
theorem c_X11_of (l : Launch) (D : va_G) (ct : Nat → ClassId) (ad : Nat → Nat → Nat) (L : List (Nat × Nat)) (φ : Nat → Nat → Nat → Bool) (N0 : Nat) (σ : St) (x1 : Int) (x2 : Int) (Q : Int → St → Prop) (hw : wp_X11_of σ x1 x2 Q) : Met l yX11_of (.code yX11_of cX11_of 3 (some .int) :: gw) ({ frames := 3, cells := 0, slots := 0, locals := 62 } : Room) (Pm D ct ad L φ N0 σ [.ref (ad 11 0), .int (iv x1), .int (iv x2)]) (Qi D ct ad L φ N0 Q) 0 0 (AA N0) := by
  refine m_of (by decide) (fun p e s m below meth c X hnm h => ?_)
  have hF := X.2.2.2.2.2.2.2.2.1
  have hl := lv_entry ([.ref (ad 11 0), .int (iv x1), .int (iv x2)]) (n := 3) (Nat.le_of_ble_eq_true rfl)
  rw [lg_entry_eq]
  generalize (lg_sl ([.ref (ad 11 0), .int (iv x1), .int (iv x2)]) ++ List.replicate (3 - (lg_sl ([.ref (ad 11 0), .int (iv x1), .int (iv x2)])).length) Slot.unset).toArray = ls at hl ⊢
  have hl : lv_has ls 3 [(0, .ref (ad 11 0)), (1, .int (iv x1)), (2, .int (iv x2))] := hl
  have h : Hs D ct ad L φ N0 s.heap σ s.heap [] := h
  unfold wp_X11_of at hw
  refine lv_iload_n X.1 X.2.1 dX11_of_0 rfl (lv_at hl 1 rfl) ?_
  refine k_i h (r_S (As := [.int (iv x1)]) (rest := []) X h (c_X11_isCell l D ct ad L φ N0 σ x1 _ hw) rfl rfl ⟨Nat.le_of_ble_eq_true rfl, Nat.le_of_ble_eq_true rfl⟩ kw_523 kw_524 kw_120 kw_525 pd_X11_isCell rfl hl.1 rfl (Nat.le_of_ble_eq_true rfl) ⟨Nat.le_of_ble_eq_true rfl, Nat.le_of_ble_eq_true rfl⟩ dX11_of_1) (fun r_2 σ_1 H locs hw h => ?_)
  obtain ⟨g_3, hwt, hwf⟩ := hw
  refine j_if_ne (tgt := 9) X g_3 dX11_of_4 (by decide) (fun c_27 => ?_) (fun c_27 => ?_)
  · have hw := hwt c_27
    refine lv_iload_n X.1 X.2.1 dX11_of_9 rfl (lv_at hl 2 rfl) ?_
    obtain ⟨g_4, hw0, hw1, hw2, hw3, hw4, hw5⟩ := hw
    by_cases c_21 : x2 = 0
    · have hw := hw0 c_21
      refine j_tin (v := 0) (tgt := 44) X g_4 c_21 dX11_of_10 (by decide) (by decide) rfl (by decide) ?_
      refine lv_aload_n X.1 X.2.1 dX11_of_44 rfl (lv_at hl 0 rfl) ?_
      refine r_getR (ci := 11) X inw_11 h (hF.1 11 rfl).1 rfl rfl 1 (by decide) kw_459 rfl ((hF.1 11 rfl).2 1) dX11_of_45 ?_
      refine r_getRN (ci := 3) X inw_3 h (hF.1 3 rfl).1 rfl rfl 0 (by decide) kw_187 rfl ((hF.1 3 rfl).2 0) dX11_of_48 ?_
      refine lv_iload_n X.1 X.2.1 dX11_of_51 rfl (lv_at hl 1 rfl) ?_
      obtain ⟨g_5, g_6, hw⟩ := hw
      refine r_iald (n := 64) X h (hF.1 28 rfl).1 rfl (by decide) g_5 g_6 dX11_of_52 ?_
      exact k_ir X rfl h hw dX11_of_53
    by_cases c_22 : x2 = 1
    · have hw := hw1 c_22
      refine j_tin (v := 1) (tgt := 54) X g_4 c_22 dX11_of_10 (by decide) (by decide) rfl (by decide) ?_
      refine lv_aload_n X.1 X.2.1 dX11_of_54 rfl (lv_at hl 0 rfl) ?_
      refine r_getR (ci := 11) X inw_11 h (hF.1 11 rfl).1 rfl rfl 1 (by decide) kw_459 rfl ((hF.1 11 rfl).2 1) dX11_of_55 ?_
      refine r_getRN (ci := 3) X inw_3 h (hF.1 3 rfl).1 rfl rfl 1 (by decide) kw_190 rfl ((hF.1 3 rfl).2 1) dX11_of_58 ?_
      refine lv_iload_n X.1 X.2.1 dX11_of_61 rfl (lv_at hl 1 rfl) ?_
      obtain ⟨g_7, g_8, hw⟩ := hw
      refine r_iald (n := 64) X h (hF.1 29 rfl).1 rfl (by decide) g_7 g_8 dX11_of_62 ?_
      exact k_ir X rfl h hw dX11_of_63
    by_cases c_23 : x2 = 2
    · have hw := hw2 c_23
      refine j_tin (v := 2) (tgt := 64) X g_4 c_23 dX11_of_10 (by decide) (by decide) rfl (by decide) ?_
      refine lv_aload_n X.1 X.2.1 dX11_of_64 rfl (lv_at hl 0 rfl) ?_
      refine r_getR (ci := 11) X inw_11 h (hF.1 11 rfl).1 rfl rfl 1 (by decide) kw_459 rfl ((hF.1 11 rfl).2 1) dX11_of_65 ?_
      refine r_getRN (ci := 3) X inw_3 h (hF.1 3 rfl).1 rfl rfl 3 (by decide) kw_195 rfl ((hF.1 3 rfl).2 3) dX11_of_68 ?_
      refine lv_iload_n X.1 X.2.1 dX11_of_71 rfl (lv_at hl 1 rfl) ?_
      obtain ⟨g_9, g_10, hw⟩ := hw
      refine r_iald (n := 64) X h (hF.1 31 rfl).1 rfl (by decide) g_9 g_10 dX11_of_72 ?_
      exact k_ir X rfl h hw dX11_of_73
    by_cases c_24 : x2 = 3
    · have hw := hw3 c_24
      refine j_tin (v := 3) (tgt := 74) X g_4 c_24 dX11_of_10 (by decide) (by decide) rfl (by decide) ?_
      refine lv_aload_n X.1 X.2.1 dX11_of_74 rfl (lv_at hl 0 rfl) ?_
      refine r_getR (ci := 11) X inw_11 h (hF.1 11 rfl).1 rfl rfl 1 (by decide) kw_459 rfl ((hF.1 11 rfl).2 1) dX11_of_75 ?_
      refine lv_iload_n X.1 X.2.1 dX11_of_78 rfl (lv_at hl 1 rfl) ?_
      refine k_i h (r_V (C := RX3) (ci := 3) (As := [.int (iv x1)]) (rest := []) X h (c_X3_far l D ct ad L φ N0 σ_1 x1 _ hw) rfl rfl ⟨Nat.le_of_ble_eq_true rfl, Nat.le_of_ble_eq_true rfl⟩ kw_581 kw_582 kw_583 kw_122 kw_584 ⟨rfl, pd_X3_far⟩ (hF.1 3 rfl).1 rfl rfl rfl hl.1 rfl (Nat.le_of_ble_eq_true rfl) ⟨Nat.le_of_ble_eq_true rfl, Nat.le_of_ble_eq_true rfl⟩ dX11_of_79) (fun r_12 σ_11 H locs hw h => ?_)
      exact k_ir X rfl h hw dX11_of_82
    by_cases c_25 : x2 = 4
    · have hw := hw4 c_25
      refine j_tin (v := 4) (tgt := 83) X g_4 c_25 dX11_of_10 (by decide) (by decide) rfl (by decide) ?_
      refine lv_aload_n X.1 X.2.1 dX11_of_83 rfl (lv_at hl 0 rfl) ?_
      refine r_getR (ci := 11) X inw_11 h (hF.1 11 rfl).1 rfl rfl 1 (by decide) kw_459 rfl ((hF.1 11 rfl).2 1) dX11_of_84 ?_
      refine lv_iload_n X.1 X.2.1 dX11_of_87 rfl (lv_at hl 1 rfl) ?_
      refine k_i h (r_V (C := RX3) (ci := 3) (As := [.int (iv x1)]) (rest := []) X h (c_X3_stemsIn l D ct ad L φ N0 σ_1 x1 _ hw) rfl rfl ⟨Nat.le_of_ble_eq_true rfl, Nat.le_of_ble_eq_true rfl⟩ kw_591 kw_592 kw_593 kw_122 kw_594 ⟨rfl, pd_X3_stemsIn⟩ (hF.1 3 rfl).1 rfl rfl rfl hl.1 rfl (Nat.le_of_ble_eq_true rfl) ⟨Nat.le_of_ble_eq_true rfl, Nat.le_of_ble_eq_true rfl⟩ dX11_of_88) (fun r_14 σ_13 H locs hw h => ?_)
      exact k_ir X rfl h hw dX11_of_91
    have c_26 : x2 < 0 ∨ 4 < x2 := by omega
    have hw := hw5 c_26
    refine j_tout (tgt := 92) X g_4 c_26 dX11_of_10 (by decide) ?_
    refine lv_iload_n X.1 X.2.1 dX11_of_92 rfl (lv_at hl 2 rfl) ?_
    refine j_iconst X dX11_of_93 ?_
    refine j_bipush X dX11_of_94 (by decide) ?_
    refine k_i h (r_S (As := [.int (iv x2), .int (iv 5), .int (iv 20)]) (rest := []) X h (c_X11_within l D ct ad L φ N0 σ_1 x2 5 20 _ hw) rfl rfl ⟨Nat.le_of_ble_eq_true rfl, Nat.le_of_ble_eq_true rfl⟩ kw_526 kw_527 kw_120 kw_528 pd_X11_within rfl hl.1 rfl (Nat.le_of_ble_eq_true rfl) ⟨Nat.le_of_ble_eq_true rfl, Nat.le_of_ble_eq_true rfl⟩ dX11_of_96) (fun r_16 σ_15 H locs hw h => ?_)
    obtain ⟨g_17, hwt, hwf⟩ := hw
    refine j_if_eq (tgt := 121) X g_17 dX11_of_99 (by decide) (fun c_20 => ?_) (fun c_20 => ?_)
    · have hw := hwt c_20
      refine j_iconst X dX11_of_121 ?_
      exact k_ir X rfl h hw dX11_of_122
    · have hw := hwf c_20
      refine lv_aload_n X.1 X.2.1 dX11_of_102 rfl (lv_at hl 0 rfl) ?_
      refine r_getR (ci := 11) X inw_11 h (hF.1 11 rfl).1 rfl rfl 1 (by decide) kw_459 rfl ((hF.1 11 rfl).2 1) dX11_of_103 ?_
      refine r_getRN (ci := 3) X inw_3 h (hF.1 3 rfl).1 rfl rfl 2 (by decide) kw_193 rfl ((hF.1 3 rfl).2 2) dX11_of_106 ?_
      refine lv_iload_n X.1 X.2.1 dX11_of_109 rfl (lv_at hl 1 rfl) ?_
      refine j_bipush X dX11_of_110 (by decide) ?_
      refine j_imul X dX11_of_112 ?_
      refine lv_iload_n X.1 X.2.1 dX11_of_113 rfl (lv_at hl 2 rfl) ?_
      refine j_iadd X dX11_of_114 ?_
      refine j_iconst X dX11_of_115 ?_
      refine j_isub X dX11_of_116 ?_
      obtain ⟨g_18, g_19, hw⟩ := hw
      refine r_iald (n := 1024) X h (hF.1 30 rfl).1 rfl (by decide) g_18 g_19 dX11_of_117 ?_
      refine lv_goto (tgt := 122) X.1 X.2.1 dX11_of_118 (by decide) ?_
      exact k_ir X rfl h hw dX11_of_122
  · have hw := hwf c_27
    refine j_iconst X dX11_of_7 ?_
    exact k_ir X rfl h hw dX11_of_8
end
section
variable {p : Program} {l : Launch} {e : Env} {s : State} {m : MethodId} {args : Array Value} {below : List Frame} {meth : Method} {c : Code} {D : va_G} {ct : Nat → ClassId} {ad : Nat → Nat → Nat} {L : List (Nat × Nat)} {φ : Nat → Nat → Nat → Bool} {N0 : Nat}
variable {Q : Int → St → Prop}
theorem pd_X11_price : yX11_price.cls ≠ "java/lang/invoke/MethodHandle" ∧ yX11_price.cls ≠ "java/lang/invoke/VarHandle" ∧ (parseMethodDescriptor yX11_price.desc).map (fun d => d.parameters.length) = some 2 := by decide +kernel
set_option maxRecDepth 100000 in
set_option maxHeartbeats 4000000 in
theorem c_X11_price (l : Launch) (D : va_G) (ct : Nat → ClassId) (ad : Nat → Nat → Nat) (L : List (Nat × Nat)) (φ : Nat → Nat → Nat → Bool) (N0 : Nat) (σ : St) (x1 : Int) (x2 : Int) (Q : Int → St → Prop) (hw : wp_X11_price σ x1 x2 Q) : Met l yX11_price (.code yX11_price cX11_price 3 (some .boolean) :: gw) ({ frames := 1, cells := 0, slots := 0, locals := 22 } : Room) (Pm D ct ad L φ N0 σ [.ref (ad 11 0), .int (iv x1), .int (iv x2)]) (Qi D ct ad L φ N0 Q) 0 0 (AA N0) := by
  refine m_of (by decide) (fun p e s m below meth c X hnm h => ?_)
  have hF := X.2.2.2.2.2.2.2.2.1
  have hl := lv_entry ([.ref (ad 11 0), .int (iv x1), .int (iv x2)]) (n := 3) (Nat.le_of_ble_eq_true rfl)
  rw [lg_entry_eq]
  generalize (lg_sl ([.ref (ad 11 0), .int (iv x1), .int (iv x2)]) ++ List.replicate (3 - (lg_sl ([.ref (ad 11 0), .int (iv x1), .int (iv x2)])).length) Slot.unset).toArray = ls at hl ⊢
  have hl : lv_has ls 3 [(0, .ref (ad 11 0)), (1, .int (iv x1)), (2, .int (iv x2))] := hl
  have h : Hs D ct ad L φ N0 s.heap σ s.heap [] := h
  unfold wp_X11_price at hw
  refine lv_iload_n X.1 X.2.1 dX11_price_0 rfl (lv_at hl 1 rfl) ?_
  refine j_iconst X dX11_price_1 ?_
  refine j_bipush X dX11_price_2 (by decide) ?_
  refine k_i h (r_S (As := [.int (iv x1), .int (iv 2), .int (iv 6)]) (rest := []) X h (c_X11_within l D ct ad L φ N0 σ x1 2 6 _ hw) rfl rfl ⟨Nat.le_of_ble_eq_true rfl, Nat.le_of_ble_eq_true rfl⟩ kw_526 kw_527 kw_120 kw_528 pd_X11_within rfl hl.1 rfl (Nat.le_of_ble_eq_true rfl) ⟨Nat.le_of_ble_eq_true rfl, Nat.le_of_ble_eq_true rfl⟩ dX11_price_4) (fun r_2 σ_1 H locs hw h => ?_)
  obtain ⟨g_3, hwt, hwf⟩ := hw
  refine j_if_eq (tgt := 20) X g_3 dX11_price_7 (by decide) (fun c_11 => ?_) (fun c_11 => ?_)
  · have hw := hwt c_11
    refine j_iconst X dX11_price_20 ?_
    exact k_ir X rfl h hw dX11_price_21
  · have hw := hwf c_11
    refine lv_iload_n X.1 X.2.1 dX11_price_10 rfl (lv_at hl 2 rfl) ?_
    refine j_iconst X dX11_price_11 ?_
    refine j_bipush X dX11_price_12 (by decide) ?_
    refine k_i h (r_S (As := [.int (iv x2), .int (iv 0), .int (iv 99)]) (rest := []) X h (c_X11_within l D ct ad L φ N0 σ_1 x2 0 99 _ hw) rfl rfl ⟨Nat.le_of_ble_eq_true rfl, Nat.le_of_ble_eq_true rfl⟩ kw_526 kw_527 kw_120 kw_528 pd_X11_within rfl hl.1 rfl (Nat.le_of_ble_eq_true rfl) ⟨Nat.le_of_ble_eq_true rfl, Nat.le_of_ble_eq_true rfl⟩ dX11_price_14) (fun r_5 σ_4 H locs hw h => ?_)
    obtain ⟨g_6, hwt, hwf⟩ := hw
    refine j_if_ne (tgt := 22) X g_6 dX11_price_17 (by decide) (fun c_10 => ?_) (fun c_10 => ?_)
    · have hw := hwt c_10
      refine lv_aload_n X.1 X.2.1 dX11_price_22 rfl (lv_at hl 0 rfl) ?_
      refine r_getR (ci := 11) X inw_11 h (hF.1 11 rfl).1 rfl rfl 2 (by decide) kw_460 rfl ((hF.1 11 rfl).2 2) dX11_price_23 ?_
      refine r_getRN (ci := 0) X inw_0 h (hF.1 0 rfl).1 rfl rfl 0 (by decide) kw_228 rfl ((hF.1 0 rfl).2 0) dX11_price_26 ?_
      refine lv_iload_n X.1 X.2.1 dX11_price_29 rfl (lv_at hl 1 rfl) ?_
      refine lv_iload_n X.1 X.2.1 dX11_price_30 rfl (lv_at hl 2 rfl) ?_
      obtain ⟨g_7, g_8, hw⟩ := hw
      refine r_iast (n := 7) X h (hF.1 20 rfl).1 (fun _ => rfl) (by decide) g_7 g_8 rfl dX11_price_31 (fun H locs h => ?_)
      obtain ⟨σ_9, eσ_9⟩ : ∃ z : St, z = st σ_4 20 0 (Int.toNat x1) x2 := ⟨_, rfl⟩
      rw [← eσ_9] at h
      have hw := hw σ_9 eσ_9
      refine j_iconst X dX11_price_32 ?_
      exact k_ir X rfl h hw dX11_price_33
    · have hw := hwf c_10
      refine j_iconst X dX11_price_20 ?_
      exact k_ir X rfl h hw dX11_price_21
end
section
variable {p : Program} {l : Launch} {e : Env} {s : State} {m : MethodId} {args : Array Value} {below : List Frame} {meth : Method} {c : Code} {D : va_G} {ct : Nat → ClassId} {ad : Nat → Nat → Nat} {L : List (Nat × Nat)} {φ : Nat → Nat → Nat → Bool} {N0 : Nat}
variable {Q : Int → St → Prop}
theorem pd_X11_buck : yX11_buck.cls ≠ "java/lang/invoke/MethodHandle" ∧ yX11_buck.cls ≠ "java/lang/invoke/VarHandle" ∧ (parseMethodDescriptor yX11_buck.desc).map (fun d => d.parameters.length) = some 2 := by decide +kernel
set_option maxRecDepth 100000 in
set_option maxHeartbeats 4000000 in
theorem c_X11_buck (l : Launch) (D : va_G) (ct : Nat → ClassId) (ad : Nat → Nat → Nat) (L : List (Nat × Nat)) (φ : Nat → Nat → Nat → Bool) (N0 : Nat) (σ : St) (x1 : Int) (x2 : Int) (Q : Int → St → Prop) (hw : wp_X11_buck σ x1 x2 Q) : Met l yX11_buck (.code yX11_buck cX11_buck 3 (some .int) :: gw) ({ frames := 4, cells := 0, slots := 0, locals := 98 } : Room) (Pm D ct ad L φ N0 σ [.ref (ad 11 0), .int (iv x1), .int (iv x2)]) (Qi D ct ad L φ N0 Q) 0 0 (AA N0) := by
  refine m_of (by decide) (fun p e s m below meth c X hnm h => ?_)
  have hF := X.2.2.2.2.2.2.2.2.1
  have hl := lv_entry ([.ref (ad 11 0), .int (iv x1), .int (iv x2)]) (n := 3) (Nat.le_of_ble_eq_true rfl)
  rw [lg_entry_eq]
  generalize (lg_sl ([.ref (ad 11 0), .int (iv x1), .int (iv x2)]) ++ List.replicate (3 - (lg_sl ([.ref (ad 11 0), .int (iv x1), .int (iv x2)])).length) Slot.unset).toArray = ls at hl ⊢
  have hl : lv_has ls 3 [(0, .ref (ad 11 0)), (1, .int (iv x1)), (2, .int (iv x2))] := hl
  have h : Hs D ct ad L φ N0 s.heap σ s.heap [] := h
  unfold wp_X11_buck at hw
  refine lv_iload_n X.1 X.2.1 dX11_buck_0 rfl (lv_at hl 1 rfl) ?_
  refine lv_iload_n X.1 X.2.1 dX11_buck_1 rfl (lv_at hl 2 rfl) ?_
  refine k_i h (r_S (As := [.int (iv x1), .int (iv x2)]) (rest := []) X h (c_X11_isStem l D ct ad L φ N0 σ x1 x2 _ hw) rfl rfl ⟨Nat.le_of_ble_eq_true rfl, Nat.le_of_ble_eq_true rfl⟩ kw_533 kw_534 kw_120 kw_535 pd_X11_isStem rfl hl.1 rfl (Nat.le_of_ble_eq_true rfl) ⟨Nat.le_of_ble_eq_true rfl, Nat.le_of_ble_eq_true rfl⟩ dX11_buck_2) (fun r_2 σ_1 H locs hw h => ?_)
  obtain ⟨g_3, hwt, hwf⟩ := hw
  refine j_if_eq (tgt := 24) X g_3 dX11_buck_5 (by decide) (fun c_6 => ?_) (fun c_6 => ?_)
  · have hw := hwt c_6
    refine j_iconst X dX11_buck_24 ?_
    exact k_ir X rfl h hw dX11_buck_25
  · have hw := hwf c_6
    refine lv_aload_n X.1 X.2.1 dX11_buck_8 rfl (lv_at hl 0 rfl) ?_
    refine r_getR (ci := 11) X inw_11 h (hF.1 11 rfl).1 rfl rfl 2 (by decide) kw_460 rfl ((hF.1 11 rfl).2 2) dX11_buck_9 ?_
    refine lv_aload_n X.1 X.2.1 dX11_buck_12 rfl (lv_at hl 0 rfl) ?_
    refine r_getR (ci := 11) X inw_11 h (hF.1 11 rfl).1 rfl rfl 1 (by decide) kw_459 rfl ((hF.1 11 rfl).2 1) dX11_buck_13 ?_
    refine lv_iload_n X.1 X.2.1 dX11_buck_16 rfl (lv_at hl 1 rfl) ?_
    refine lv_iload_n X.1 X.2.1 dX11_buck_17 rfl (lv_at hl 2 rfl) ?_
    refine k_i h (r_V (C := RX0) (ci := 0) (As := [.ref (ad 3 0), .int (iv x1), .int (iv x2)]) (rest := []) X h (c_X0_chooseBest l D ct ad L φ N0 σ_1 x1 x2 _ hw) rfl rfl ⟨Nat.le_of_ble_eq_true rfl, Nat.le_of_ble_eq_true rfl⟩ kw_603 kw_604 kw_605 kw_123 kw_606 ⟨rfl, pd_X0_chooseBest⟩ (hF.1 0 rfl).1 rfl rfl rfl hl.1 rfl (Nat.le_of_ble_eq_true rfl) ⟨Nat.le_of_ble_eq_true rfl, Nat.le_of_ble_eq_true rfl⟩ dX11_buck_18) (fun r_5 σ_4 H locs hw h => ?_)
    refine lv_goto (tgt := 25) X.1 X.2.1 dX11_buck_21 (by decide) ?_
    exact k_ir X rfl h hw dX11_buck_25
end
section
variable {p : Program} {l : Launch} {e : Env} {s : State} {m : MethodId} {args : Array Value} {below : List Frame} {meth : Method} {c : Code} {D : va_G} {ct : Nat → ClassId} {ad : Nat → Nat → Nat} {L : List (Nat × Nat)} {φ : Nat → Nat → Nat → Bool} {N0 : Nat}
variable {Q : Int → St → Prop}
theorem pd_X11_piece : yX11_piece.cls ≠ "java/lang/invoke/MethodHandle" ∧ yX11_piece.cls ≠ "java/lang/invoke/VarHandle" ∧ (parseMethodDescriptor yX11_piece.desc).map (fun d => d.parameters.length) = some 3 := by decide +kernel
set_option maxRecDepth 100000 in
set_option maxHeartbeats 4000000 in
theorem c_X11_piece (l : Launch) (D : va_G) (ct : Nat → ClassId) (ad : Nat → Nat → Nat) (L : List (Nat × Nat)) (φ : Nat → Nat → Nat → Bool) (N0 : Nat) (σ : St) (x1 : Int) (x2 : Int) (x3 : Int) (Q : Int → St → Prop) (hw : wp_X11_piece σ x1 x2 x3 Q) : Met l yX11_piece (.code yX11_piece cX11_piece 4 (some .int) :: gw) ({ frames := 4, cells := 0, slots := 0, locals := 98 } : Room) (Pm D ct ad L φ N0 σ [.ref (ad 11 0), .int (iv x1), .int (iv x2), .int (iv x3)]) (Qi D ct ad L φ N0 Q) 0 0 (AA N0) := by
  refine m_of (by decide) (fun p e s m below meth c X hnm h => ?_)
  have hF := X.2.2.2.2.2.2.2.2.1
  have hl := lv_entry ([.ref (ad 11 0), .int (iv x1), .int (iv x2), .int (iv x3)]) (n := 4) (Nat.le_of_ble_eq_true rfl)
  rw [lg_entry_eq]
  generalize (lg_sl ([.ref (ad 11 0), .int (iv x1), .int (iv x2), .int (iv x3)]) ++ List.replicate (4 - (lg_sl ([.ref (ad 11 0), .int (iv x1), .int (iv x2), .int (iv x3)])).length) Slot.unset).toArray = ls at hl ⊢
  have hl : lv_has ls 4 [(0, .ref (ad 11 0)), (1, .int (iv x1)), (2, .int (iv x2)), (3, .int (iv x3))] := hl
  have h : Hs D ct ad L φ N0 s.heap σ s.heap [] := h
  unfold wp_X11_piece at hw
  refine lv_iload_n X.1 X.2.1 dX11_piece_0 rfl (lv_at hl 1 rfl) ?_
  refine lv_iload_n X.1 X.2.1 dX11_piece_1 rfl (lv_at hl 2 rfl) ?_
  refine k_i h (r_S (As := [.int (iv x1), .int (iv x2)]) (rest := []) X h (c_X11_isStem l D ct ad L φ N0 σ x1 x2 _ hw) rfl rfl ⟨Nat.le_of_ble_eq_true rfl, Nat.le_of_ble_eq_true rfl⟩ kw_533 kw_534 kw_120 kw_535 pd_X11_isStem rfl hl.1 rfl (Nat.le_of_ble_eq_true rfl) ⟨Nat.le_of_ble_eq_true rfl, Nat.le_of_ble_eq_true rfl⟩ dX11_piece_2) (fun r_2 σ_1 H locs hw h => ?_)
  obtain ⟨g_3, hwt, hwf⟩ := hw
  refine j_if_ne (tgt := 10) X g_3 dX11_piece_5 (by decide) (fun c_12 => ?_) (fun c_12 => ?_)
  · have hw := hwt c_12
    refine lv_aload_n X.1 X.2.1 dX11_piece_10 rfl (lv_at hl 0 rfl) ?_
    refine r_getR (ci := 11) X inw_11 h (hF.1 11 rfl).1 rfl rfl 2 (by decide) kw_460 rfl ((hF.1 11 rfl).2 2) dX11_piece_11 ?_
    refine lv_aload_n X.1 X.2.1 dX11_piece_14 rfl (lv_at hl 0 rfl) ?_
    refine r_getR (ci := 11) X inw_11 h (hF.1 11 rfl).1 rfl rfl 1 (by decide) kw_459 rfl ((hF.1 11 rfl).2 1) dX11_piece_15 ?_
    refine lv_iload_n X.1 X.2.1 dX11_piece_18 rfl (lv_at hl 1 rfl) ?_
    refine lv_iload_n X.1 X.2.1 dX11_piece_19 rfl (lv_at hl 2 rfl) ?_
    refine k_i h (r_V (C := RX0) (ci := 0) (As := [.ref (ad 3 0), .int (iv x1), .int (iv x2)]) (rest := []) X h (c_X0_chooseBest l D ct ad L φ N0 σ_1 x1 x2 _ hw) rfl rfl ⟨Nat.le_of_ble_eq_true rfl, Nat.le_of_ble_eq_true rfl⟩ kw_603 kw_604 kw_605 kw_123 kw_606 ⟨rfl, pd_X0_chooseBest⟩ (hF.1 0 rfl).1 rfl rfl rfl hl.1 rfl (Nat.le_of_ble_eq_true rfl) ⟨Nat.le_of_ble_eq_true rfl, Nat.le_of_ble_eq_true rfl⟩ dX11_piece_20) (fun r_5 σ_4 H locs hw h => ?_)
    refine lv_pop X.1 X.2.1 dX11_piece_23 rfl ?_
    refine lv_iload_n X.1 X.2.1 dX11_piece_24 rfl (lv_at hl 3 rfl) ?_
    refine j_iconst X dX11_piece_25 ?_
    refine lv_aload_n X.1 X.2.1 dX11_piece_26 rfl (lv_at hl 0 rfl) ?_
    refine r_getR (ci := 11) X inw_11 h (hF.1 11 rfl).1 rfl rfl 2 (by decide) kw_460 rfl ((hF.1 11 rfl).2 2) dX11_piece_27 ?_
    refine r_getN (ci := 0) X inw_0 h (hF.1 0 rfl).1 rfl rfl 4 (by decide) kw_234 rfl dX11_piece_30 ?_
    refine j_iconst X dX11_piece_33 ?_
    refine j_isub X dX11_piece_34 ?_
    refine k_i h (r_S (As := [.int (iv x3), .int (iv 0), .int (iv ((σ_4 0 0 4) - 1))]) (rest := []) X h (c_X11_within l D ct ad L φ N0 σ_4 x3 0 ((σ_4 0 0 4) - 1) _ hw) rfl rfl ⟨Nat.le_of_ble_eq_true rfl, Nat.le_of_ble_eq_true rfl⟩ kw_526 kw_527 kw_120 kw_528 pd_X11_within rfl hl.1 rfl (Nat.le_of_ble_eq_true rfl) ⟨Nat.le_of_ble_eq_true rfl, Nat.le_of_ble_eq_true rfl⟩ dX11_piece_35) (fun r_7 σ_6 H locs hw h => ?_)
    obtain ⟨g_8, hwt, hwf⟩ := hw
    refine j_if_eq (tgt := 53) X g_8 dX11_piece_38 (by decide) (fun c_11 => ?_) (fun c_11 => ?_)
    · have hw := hwt c_11
      refine j_iconst X dX11_piece_53 ?_
      exact k_ir X rfl h hw dX11_piece_54
    · have hw := hwf c_11
      refine lv_aload_n X.1 X.2.1 dX11_piece_41 rfl (lv_at hl 0 rfl) ?_
      refine r_getR (ci := 11) X inw_11 h (hF.1 11 rfl).1 rfl rfl 2 (by decide) kw_460 rfl ((hF.1 11 rfl).2 2) dX11_piece_42 ?_
      refine r_getRN (ci := 0) X inw_0 h (hF.1 0 rfl).1 rfl rfl 3 (by decide) kw_232 rfl ((hF.1 0 rfl).2 3) dX11_piece_45 ?_
      refine lv_iload_n X.1 X.2.1 dX11_piece_48 rfl (lv_at hl 3 rfl) ?_
      obtain ⟨g_9, g_10, hw⟩ := hw
      refine r_iald (n := 5) X h (hF.1 23 rfl).1 rfl (by decide) g_9 g_10 dX11_piece_49 ?_
      refine lv_goto (tgt := 54) X.1 X.2.1 dX11_piece_50 (by decide) ?_
      exact k_ir X rfl h hw dX11_piece_54
  · have hw := hwf c_12
    refine j_iconst X dX11_piece_8 ?_
    exact k_ir X rfl h hw dX11_piece_9
end
section
variable {p : Program} {l : Launch} {e : Env} {s : State} {m : MethodId} {args : Array Value} {below : List Frame} {meth : Method} {c : Code} {D : va_G} {ct : Nat → ClassId} {ad : Nat → Nat → Nat} {L : List (Nat × Nat)} {φ : Nat → Nat → Nat → Bool} {N0 : Nat}
variable {Q : Int → St → Prop}
theorem pd_X11_worth : yX11_worth.cls ≠ "java/lang/invoke/MethodHandle" ∧ yX11_worth.cls ≠ "java/lang/invoke/VarHandle" ∧ (parseMethodDescriptor yX11_worth.desc).map (fun d => d.parameters.length) = some 3 := by decide +kernel
set_option maxRecDepth 100000 in
set_option maxHeartbeats 4000000 in
theorem c_X11_worth (l : Launch) (D : va_G) (ct : Nat → ClassId) (ad : Nat → Nat → Nat) (L : List (Nat × Nat)) (φ : Nat → Nat → Nat → Bool) (N0 : Nat) (σ : St) (x1 : Int) (x2 : Int) (x3 : Int) (Q : Int → St → Prop) (hw : wp_X11_worth σ x1 x2 x3 Q) : Met l yX11_worth (.code yX11_worth cX11_worth 4 (some .int) :: gw) ({ frames := 3, cells := 0, slots := 0, locals := 74 } : Room) (Pm D ct ad L φ N0 σ [.ref (ad 11 0), .int (iv x1), .int (iv x2), .int (iv x3)]) (Qi D ct ad L φ N0 Q) 0 0 (AA N0) := by
  refine m_of (by decide) (fun p e s m below meth c X hnm h => ?_)
  have hF := X.2.2.2.2.2.2.2.2.1
  have hl := lv_entry ([.ref (ad 11 0), .int (iv x1), .int (iv x2), .int (iv x3)]) (n := 4) (Nat.le_of_ble_eq_true rfl)
  rw [lg_entry_eq]
  generalize (lg_sl ([.ref (ad 11 0), .int (iv x1), .int (iv x2), .int (iv x3)]) ++ List.replicate (4 - (lg_sl ([.ref (ad 11 0), .int (iv x1), .int (iv x2), .int (iv x3)])).length) Slot.unset).toArray = ls at hl ⊢
  have hl : lv_has ls 4 [(0, .ref (ad 11 0)), (1, .int (iv x1)), (2, .int (iv x2)), (3, .int (iv x3))] := hl
  have h : Hs D ct ad L φ N0 s.heap σ s.heap [] := h
  unfold wp_X11_worth at hw
  refine lv_iload_n X.1 X.2.1 dX11_worth_0 rfl (lv_at hl 1 rfl) ?_
  refine lv_iload_n X.1 X.2.1 dX11_worth_1 rfl (lv_at hl 2 rfl) ?_
  refine k_i h (r_S (As := [.int (iv x1), .int (iv x2)]) (rest := []) X h (c_X11_isStem l D ct ad L φ N0 σ x1 x2 _ hw) rfl rfl ⟨Nat.le_of_ble_eq_true rfl, Nat.le_of_ble_eq_true rfl⟩ kw_533 kw_534 kw_120 kw_535 pd_X11_isStem rfl hl.1 rfl (Nat.le_of_ble_eq_true rfl) ⟨Nat.le_of_ble_eq_true rfl, Nat.le_of_ble_eq_true rfl⟩ dX11_worth_2) (fun r_2 σ_1 H locs hw h => ?_)
  obtain ⟨g_3, hwt, hwf⟩ := hw
  refine j_if_eq (tgt := 25) X g_3 dX11_worth_5 (by decide) (fun c_6 => ?_) (fun c_6 => ?_)
  · have hw := hwt c_6
    refine j_iconst X dX11_worth_25 ?_
    exact k_ir X rfl h hw dX11_worth_26
  · have hw := hwf c_6
    refine lv_aload_n X.1 X.2.1 dX11_worth_8 rfl (lv_at hl 0 rfl) ?_
    refine r_getR (ci := 11) X inw_11 h (hF.1 11 rfl).1 rfl rfl 2 (by decide) kw_460 rfl ((hF.1 11 rfl).2 2) dX11_worth_9 ?_
    refine lv_aload_n X.1 X.2.1 dX11_worth_12 rfl (lv_at hl 0 rfl) ?_
    refine r_getR (ci := 11) X inw_11 h (hF.1 11 rfl).1 rfl rfl 1 (by decide) kw_459 rfl ((hF.1 11 rfl).2 1) dX11_worth_13 ?_
    refine lv_iload_n X.1 X.2.1 dX11_worth_16 rfl (lv_at hl 1 rfl) ?_
    refine lv_iload_n X.1 X.2.1 dX11_worth_17 rfl (lv_at hl 2 rfl) ?_
    refine lv_iload_n X.1 X.2.1 dX11_worth_18 rfl (lv_at hl 3 rfl) ?_
    refine k_i h (r_V (C := RX0) (ci := 0) (As := [.ref (ad 3 0), .int (iv x1), .int (iv x2), .int (iv x3)]) (rest := []) X h (c_X0_chooseRow l D ct ad L φ N0 σ_1 x1 x2 x3 _ hw) rfl rfl ⟨Nat.le_of_ble_eq_true rfl, Nat.le_of_ble_eq_true rfl⟩ kw_629 kw_630 kw_631 kw_123 kw_632 ⟨rfl, pd_X0_chooseRow⟩ (hF.1 0 rfl).1 rfl rfl rfl hl.1 rfl (Nat.le_of_ble_eq_true rfl) ⟨Nat.le_of_ble_eq_true rfl, Nat.le_of_ble_eq_true rfl⟩ dX11_worth_19) (fun r_5 σ_4 H locs hw h => ?_)
    refine lv_goto (tgt := 26) X.1 X.2.1 dX11_worth_22 (by decide) ?_
    exact k_ir X rfl h hw dX11_worth_26
end
section
variable {p : Program} {l : Launch} {e : Env} {s : State} {m : MethodId} {args : Array Value} {below : List Frame} {meth : Method} {c : Code} {D : va_G} {ct : Nat → ClassId} {ad : Nat → Nat → Nat} {L : List (Nat × Nat)} {φ : Nat → Nat → Nat → Bool} {N0 : Nat}
variable {Q : Option Nat → St → Prop}
theorem pd_X11_crewAt : yX11_crewAt.cls ≠ "java/lang/invoke/MethodHandle" ∧ yX11_crewAt.cls ≠ "java/lang/invoke/VarHandle" ∧ (parseMethodDescriptor yX11_crewAt.desc).map (fun d => d.parameters.length) = some 1 := by decide +kernel
set_option maxRecDepth 100000 in
set_option maxHeartbeats 4000000 in
theorem c_X11_crewAt (l : Launch) (D : va_G) (ct : Nat → ClassId) (ad : Nat → Nat → Nat) (L : List (Nat × Nat)) (φ : Nat → Nat → Nat → Bool) (N0 : Nat) (σ : St) (x1 : Int) (Q : Option Nat → St → Prop) (hw : wp_X11_crewAt σ x1 Q) : Met l yX11_crewAt (.code yX11_crewAt cX11_crewAt 2 (some (.object "TimberValley$Crew")) :: gw) ({ frames := 1, cells := 0, slots := 0, locals := 22 } : Room) (Pm D ct ad L φ N0 σ [.ref (ad 11 0), .int (iv x1)]) (Qo D ct ad L φ N0 1 Q) 0 0 (AA N0) := by
  refine m_of (by decide) (fun p e s m below meth c X hnm h => ?_)
  have hF := X.2.2.2.2.2.2.2.2.1
  have hl := lv_entry ([.ref (ad 11 0), .int (iv x1)]) (n := 2) (Nat.le_of_ble_eq_true rfl)
  rw [lg_entry_eq]
  generalize (lg_sl ([.ref (ad 11 0), .int (iv x1)]) ++ List.replicate (2 - (lg_sl ([.ref (ad 11 0), .int (iv x1)])).length) Slot.unset).toArray = ls at hl ⊢
  have hl : lv_has ls 2 [(0, .ref (ad 11 0)), (1, .int (iv x1))] := hl
  have h : Hs D ct ad L φ N0 s.heap σ s.heap [] := h
  unfold wp_X11_crewAt at hw
  refine lv_iload_n X.1 X.2.1 dX11_crewAt_0 rfl (lv_at hl 1 rfl) ?_
  refine j_iconst X dX11_crewAt_1 ?_
  refine lv_aload_n X.1 X.2.1 dX11_crewAt_2 rfl (lv_at hl 0 rfl) ?_
  refine r_get (ci := 11) X inw_11 h (hF.1 11 rfl).1 rfl rfl 11 (by decide) kw_469 rfl dX11_crewAt_3 ?_
  refine j_iconst X dX11_crewAt_6 ?_
  refine j_isub X dX11_crewAt_7 ?_
  refine k_i h (r_S (As := [.int (iv x1), .int (iv 0), .int (iv ((σ 11 0 11) - 1))]) (rest := []) X h (c_X11_within l D ct ad L φ N0 σ x1 0 ((σ 11 0 11) - 1) _ hw) rfl rfl ⟨Nat.le_of_ble_eq_true rfl, Nat.le_of_ble_eq_true rfl⟩ kw_526 kw_527 kw_120 kw_528 pd_X11_within rfl hl.1 rfl (Nat.le_of_ble_eq_true rfl) ⟨Nat.le_of_ble_eq_true rfl, Nat.le_of_ble_eq_true rfl⟩ dX11_crewAt_8) (fun r_2 σ_1 H locs hw h => ?_)
  obtain ⟨g_3, hwt, hwf⟩ := hw
  refine j_if_eq (tgt := 23) X g_3 dX11_crewAt_11 (by decide) (fun c_8 => ?_) (fun c_8 => ?_)
  · have hw := hwt c_8
    refine lv_null X.1 X.2.1 dX11_crewAt_23 ?_
    exact k_on X h hw dX11_crewAt_24
  · have hw := hwf c_8
    refine lv_aload_n X.1 X.2.1 dX11_crewAt_14 rfl (lv_at hl 0 rfl) ?_
    refine r_getR (ci := 11) X inw_11 h (hF.1 11 rfl).1 rfl rfl 10 (by decide) kw_468 rfl ((hF.1 11 rfl).2 10) dX11_crewAt_15 ?_
    refine lv_iload_n X.1 X.2.1 dX11_crewAt_18 rfl (lv_at hl 1 rfl) ?_
    obtain ⟨g_4, g_5, hwt, hwf⟩ := hw
    refine r_aaD (n := 20) (t := 5) X h (hF.1 79 rfl).1 rfl rfl (by decide) g_4 g_5 dX11_crewAt_19 (fun c_6 => ?_) (fun c_6 => ?_)
    · have hw := hwt c_6
      refine lv_goto (tgt := 24) X.1 X.2.1 dX11_crewAt_20 (by decide) ?_
      exact k_on X h hw dX11_crewAt_24
    · have hw := hwf c_6 (h.2.2.2.2.2.2.2.1 _ c_6)
      refine lv_goto (tgt := 24) X.1 X.2.1 dX11_crewAt_20 (by decide) ?_
      exact k_os X h hw dX11_crewAt_24
end
section
variable {p : Program} {l : Launch} {e : Env} {s : State} {m : MethodId} {args : Array Value} {below : List Frame} {meth : Method} {c : Code} {D : va_G} {ct : Nat → ClassId} {ad : Nat → Nat → Nat} {L : List (Nat × Nat)} {φ : Nat → Nat → Nat → Bool} {N0 : Nat}
variable {Q : St → Prop}
theorem pd_X11_askOfCut : yX11_askOfCut.cls ≠ "java/lang/invoke/MethodHandle" ∧ yX11_askOfCut.cls ≠ "java/lang/invoke/VarHandle" ∧ (parseMethodDescriptor yX11_askOfCut.desc).map (fun d => d.parameters.length) = some 4 := by decide +kernel
set_option maxRecDepth 100000 in
set_option maxHeartbeats 4000000 in
theorem c_X11_askOfCut (l : Launch) (D : va_G) (ct : Nat → ClassId) (ad : Nat → Nat → Nat) (L : List (Nat × Nat)) (φ : Nat → Nat → Nat → Bool) (N0 : Nat) (σ : St) (x1 : Int) (x2 : Int) (x3 : Int) (x4 : Int) (Q : St → Prop) (hw : wp_X11_askOfCut σ x1 x2 x3 x4 Q) : Met l yX11_askOfCut (.code yX11_askOfCut cX11_askOfCut 5 none :: gw) ({ frames := 4, cells := 0, slots := 0, locals := 84 } : Room) (Pm D ct ad L φ N0 σ [.ref (ad 11 0), .int (iv x1), .int (iv x2), .int (iv x3), .int (iv x4)]) (Qv D ct ad L φ N0 Q) 0 0 (AA N0) := by
  refine m_of (by decide) (fun p e s m below meth c X hnm h => ?_)
  have hF := X.2.2.2.2.2.2.2.2.1
  have hl := lv_entry ([.ref (ad 11 0), .int (iv x1), .int (iv x2), .int (iv x3), .int (iv x4)]) (n := 5) (Nat.le_of_ble_eq_true rfl)
  rw [lg_entry_eq]
  generalize (lg_sl ([.ref (ad 11 0), .int (iv x1), .int (iv x2), .int (iv x3), .int (iv x4)]) ++ List.replicate (5 - (lg_sl ([.ref (ad 11 0), .int (iv x1), .int (iv x2), .int (iv x3), .int (iv x4)])).length) Slot.unset).toArray = ls at hl ⊢
  have hl : lv_has ls 5 [(0, .ref (ad 11 0)), (1, .int (iv x1)), (2, .int (iv x2)), (3, .int (iv x3)), (4, .int (iv x4))] := hl
  have h : Hs D ct ad L φ N0 s.heap σ s.heap [] := h
  unfold wp_X11_askOfCut at hw
  refine lv_aload_n X.1 X.2.1 dX11_askOfCut_0 rfl (lv_at hl 0 rfl) ?_
  refine r_getR (ci := 11) X inw_11 h (hF.1 11 rfl).1 rfl rfl 9 (by decide) kw_467 rfl ((hF.1 11 rfl).2 9) dX11_askOfCut_1 ?_
  refine lv_aload_n X.1 X.2.1 dX11_askOfCut_4 rfl (lv_at hl 0 rfl) ?_
  refine r_getR (ci := 11) X inw_11 h (hF.1 11 rfl).1 rfl rfl 0 (by decide) kw_458 rfl ((hF.1 11 rfl).2 0) dX11_askOfCut_5 ?_
  refine k_v h (r_V (C := RX8) (ci := 8) (As := [.ref (ad 7 0)]) (rest := []) X h (c_X8_askOfDay l D ct ad L φ N0 σ _ hw) rfl rfl ⟨Nat.le_of_ble_eq_true rfl, Nat.le_of_ble_eq_true rfl⟩ kw_653 kw_654 kw_655 kw_125 kw_656 ⟨rfl, pd_X8_askOfDay⟩ (hF.1 8 rfl).1 rfl rfl rfl hl.1 rfl (Nat.le_of_ble_eq_true rfl) ⟨Nat.le_of_ble_eq_true rfl, Nat.le_of_ble_eq_true rfl⟩ dX11_askOfCut_8) (fun σ_1 H locs hw h => ?_)
  refine lv_aload_n X.1 X.2.1 dX11_askOfCut_11 rfl (lv_at hl 0 rfl) ?_
  refine r_getR (ci := 11) X inw_11 h (hF.1 11 rfl).1 rfl rfl 9 (by decide) kw_467 rfl ((hF.1 11 rfl).2 9) dX11_askOfCut_12 ?_
  refine lv_aload_n X.1 X.2.1 dX11_askOfCut_15 rfl (lv_at hl 0 rfl) ?_
  refine r_getR (ci := 11) X inw_11 h (hF.1 11 rfl).1 rfl rfl 1 (by decide) kw_459 rfl ((hF.1 11 rfl).2 1) dX11_askOfCut_16 ?_
  refine lv_iload_n X.1 X.2.1 dX11_askOfCut_19 rfl (lv_at hl 2 rfl) ?_
  refine k_v h (r_V (C := RX8) (ci := 8) (As := [.ref (ad 3 0), .int (iv x2)]) (rest := []) X h (c_X8_askOfCell l D ct ad L φ N0 σ_1 x2 _ hw) rfl rfl ⟨Nat.le_of_ble_eq_true rfl, Nat.le_of_ble_eq_true rfl⟩ kw_665 kw_666 kw_667 kw_125 kw_668 ⟨rfl, pd_X8_askOfCell⟩ (hF.1 8 rfl).1 rfl rfl rfl hl.1 rfl (Nat.le_of_ble_eq_true rfl) ⟨Nat.le_of_ble_eq_true rfl, Nat.le_of_ble_eq_true rfl⟩ dX11_askOfCut_20) (fun σ_2 H locs hw h => ?_)
  refine lv_aload_n X.1 X.2.1 dX11_askOfCut_23 rfl (lv_at hl 0 rfl) ?_
  refine r_getR (ci := 11) X inw_11 h (hF.1 11 rfl).1 rfl rfl 9 (by decide) kw_467 rfl ((hF.1 11 rfl).2 9) dX11_askOfCut_24 ?_
  refine r_getRN (ci := 8) X inw_8 h (hF.1 8 rfl).1 rfl rfl 9 (by decide) kw_291 rfl ((hF.1 8 rfl).2 9) dX11_askOfCut_27 ?_
  refine j_iconst X dX11_askOfCut_30 ?_
  refine lv_iload_n X.1 X.2.1 dX11_askOfCut_31 rfl (lv_at hl 3 rfl) ?_
  refine r_iast (n := 13) X h (hF.1 75 rfl).1 (fun _ => rfl) (by decide) (by decide) (by decide) rfl dX11_askOfCut_32 (fun H locs h => ?_)
  obtain ⟨σ_3, eσ_3⟩ : ∃ z : St, z = st σ_2 75 0 (Int.toNat 2) x3 := ⟨_, rfl⟩
  rw [← eσ_3] at h
  have hw := hw σ_3 eσ_3
  refine lv_aload_n X.1 X.2.1 dX11_askOfCut_33 rfl (lv_at hl 0 rfl) ?_
  refine r_getR (ci := 11) X inw_11 h (hF.1 11 rfl).1 rfl rfl 9 (by decide) kw_467 rfl ((hF.1 11 rfl).2 9) dX11_askOfCut_34 ?_
  refine r_getRN (ci := 8) X inw_8 h (hF.1 8 rfl).1 rfl rfl 9 (by decide) kw_291 rfl ((hF.1 8 rfl).2 9) dX11_askOfCut_37 ?_
  refine j_iconst X dX11_askOfCut_40 ?_
  refine lv_iload X.1 X.2.1 dX11_askOfCut_41 (lv_at hl 4 rfl) ?_
  refine r_iast (n := 13) X h (hF.1 75 rfl).1 (fun _ => rfl) (by decide) (by decide) (by decide) rfl dX11_askOfCut_43 (fun H locs h => ?_)
  obtain ⟨σ_4, eσ_4⟩ : ∃ z : St, z = st σ_3 75 0 (Int.toNat 3) x4 := ⟨_, rfl⟩
  rw [← eσ_4] at h
  have hw := hw σ_4 eσ_4
  refine lv_aload_n X.1 X.2.1 dX11_askOfCut_44 rfl (lv_at hl 0 rfl) ?_
  refine r_getR (ci := 11) X inw_11 h (hF.1 11 rfl).1 rfl rfl 9 (by decide) kw_467 rfl ((hF.1 11 rfl).2 9) dX11_askOfCut_45 ?_
  refine r_getRN (ci := 8) X inw_8 h (hF.1 8 rfl).1 rfl rfl 9 (by decide) kw_291 rfl ((hF.1 8 rfl).2 9) dX11_askOfCut_48 ?_
  refine j_bipush X dX11_askOfCut_51 (by decide) ?_
  refine lv_iload_n X.1 X.2.1 dX11_askOfCut_53 rfl (lv_at hl 1 rfl) ?_
  refine r_iast (n := 13) X h (hF.1 75 rfl).1 (fun _ => rfl) (by decide) (by decide) (by decide) rfl dX11_askOfCut_54 (fun H locs h => ?_)
  obtain ⟨σ_5, eσ_5⟩ : ∃ z : St, z = st σ_4 75 0 (Int.toNat 11) x1 := ⟨_, rfl⟩
  rw [← eσ_5] at h
  have hw := hw σ_5 eσ_5
  exact k_vr X h hw dX11_askOfCut_55
end
section
variable {p : Program} {l : Launch} {e : Env} {s : State} {m : MethodId} {args : Array Value} {below : List Frame} {meth : Method} {c : Code} {D : va_G} {ct : Nat → ClassId} {ad : Nat → Nat → Nat} {L : List (Nat × Nat)} {φ : Nat → Nat → Nat → Bool} {N0 : Nat}
variable {Q : St → Prop}
set_option maxRecDepth 100000 in
set_option maxHeartbeats 4000000 in
theorem lb_X11_become_22 (X : Cx p s m meth c args cX11_become 5 none RX11 D ct L φ N0) (σ : St) (j1 : Nat) (x2 : Int) (x3 : Int) (y0 : Int) (H : Heap) (locs : List Loc) (ls : Array Slot) (hw : wp_X11_become_22 Q σ j1 x2 x3 y0) (h : Hs D ct ad L φ N0 s.heap σ H locs) (hl : lv_has ls 5 [(0, .ref (ad 11 0)), (1, .ref (ad 4 j1)), (2, .int (iv x2)), (3, .int (iv x3))]) : W p l e ({ frames := 3, cells := 0, slots := 0, locals := 62 } : Room) s m args below meth c H locs 0 0 (MQ below (Qv D ct ad L φ N0 Q) args s 0 0 (AA N0)) (F0 m 22 ls [.int (iv y0)]) := by
  have hF := X.2.2.2.2.2.2.2.2.1
  unfold wp_X11_become_22 at hw
  refine lv_istore (lv' := [(4, .int (iv y0)), (0, .ref (ad 11 0)), (1, .ref (ad 4 j1)), (2, .int (iv x2)), (3, .int (iv x3))]) X.1 X.2.1 dX11_become_22 hl (by decide) rfl (fun ls hl => ?_)
  refine lv_aload_n X.1 X.2.1 dX11_become_24 rfl (lv_at hl 1 rfl) ?_
  refine r_getR (ci := 11) X inw_11 h (hF.1 11 rfl).1 rfl rfl 1 (by decide) kw_459 rfl ((hF.1 11 rfl).2 1) dX11_become_25 ?_
  refine r_getRN (ci := 3) X inw_3 h (hF.1 3 rfl).1 rfl rfl 3 (by decide) kw_195 rfl ((hF.1 3 rfl).2 3) dX11_become_28 ?_
  refine lv_aload_n X.1 X.2.1 dX11_become_31 rfl (lv_at hl 2 rfl) ?_
  obtain ⟨g_1, hw⟩ := hw
  refine r_getN (ci := 4) X inw_4 h (h.2.2.1 j1 g_1).1 rfl rfl 5 (by decide) kw_716 rfl dX11_become_32 ?_
  refine lv_dup2_11 X.1 X.2.1 dX11_become_35 rfl rfl ?_
  obtain ⟨g_2, g_3, hw⟩ := hw
  refine r_iald (n := 64) X h (hF.1 31 rfl).1 rfl (by decide) g_2 g_3 dX11_become_36 ?_
  refine lv_iload X.1 X.2.1 dX11_become_37 (lv_at hl 0 rfl) ?_
  refine lv_iload_n X.1 X.2.1 dX11_become_39 rfl (lv_at hl 4 rfl) ?_
  refine j_isub X dX11_become_40 ?_
  refine j_iadd X dX11_become_41 ?_
  obtain ⟨g_4, g_5, hw⟩ := hw
  refine r_iast (n := 64) X h (hF.1 31 rfl).1 (fun _ => rfl) (by decide) g_4 g_5 rfl dX11_become_42 (fun H locs h => ?_)
  obtain ⟨σ_6, eσ_6⟩ : ∃ z : St, z = st σ 31 0 (Int.toNat (σ 4 j1 5)) ((σ 31 0 (Int.toNat (σ 4 j1 5))) + (y0 - x3)) := ⟨_, rfl⟩
  rw [← eσ_6] at h
  have hw := hw σ_6 eσ_6
  refine lv_aload_n X.1 X.2.1 dX11_become_43 rfl (lv_at hl 2 rfl) ?_
  refine lv_iload_n X.1 X.2.1 dX11_become_44 rfl (lv_at hl 3 rfl) ?_
  refine lv_aload_n X.1 X.2.1 dX11_become_45 rfl (lv_at hl 1 rfl) ?_
  refine r_getR (ci := 11) X inw_11 h (hF.1 11 rfl).1 rfl rfl 0 (by decide) kw_458 rfl ((hF.1 11 rfl).2 0) dX11_become_46 ?_
  refine r_getN (ci := 7) X inw_7 h (hF.1 7 rfl).1 rfl rfl 3 (by decide) kw_164 rfl dX11_become_49 ?_
  refine lv_aload_n X.1 X.2.1 dX11_become_52 rfl (lv_at hl 1 rfl) ?_
  refine r_getR (ci := 11) X inw_11 h (hF.1 11 rfl).1 rfl rfl 0 (by decide) kw_458 rfl ((hF.1 11 rfl).2 0) dX11_become_53 ?_
  refine r_getN (ci := 7) X inw_7 h (hF.1 7 rfl).1 rfl rfl 3 (by decide) kw_164 rfl dX11_become_56 ?_
  refine lv_aload_n X.1 X.2.1 dX11_become_59 rfl (lv_at hl 1 rfl) ?_
  refine r_getR (ci := 11) X inw_11 h (hF.1 11 rfl).1 rfl rfl 1 (by decide) kw_459 rfl ((hF.1 11 rfl).2 1) dX11_become_60 ?_
  refine lv_aload_n X.1 X.2.1 dX11_become_63 rfl (lv_at hl 2 rfl) ?_
  obtain ⟨g_7, hw⟩ := hw
  refine r_getN (ci := 4) X inw_4 h (h.2.2.1 j1 g_7).1 rfl rfl 5 (by decide) kw_716 rfl dX11_become_64 ?_
  refine k_i h (r_V (C := RX3) (ci := 3) (As := [.int (iv (σ_6 4 j1 5))]) (rest := [.int (iv (σ_6 7 0 3)), .int (iv (σ_6 7 0 3)), .int (iv x2), .ref (ad 4 j1)]) X h (c_X3_far l D ct ad L φ N0 σ_6 (σ_6 4 j1 5) _ hw) rfl rfl ⟨Nat.le_of_ble_eq_true rfl, Nat.le_of_ble_eq_true rfl⟩ kw_581 kw_582 kw_583 kw_122 kw_584 ⟨rfl, pd_X3_far⟩ (hF.1 3 rfl).1 rfl rfl rfl hl.1 rfl (Nat.le_of_ble_eq_true rfl) ⟨Nat.le_of_ble_eq_true rfl, Nat.le_of_ble_eq_true rfl⟩ dX11_become_67) (fun r_9 σ_8 H locs hw h => ?_)
  refine j_iconst X dX11_become_70 ?_
  obtain ⟨g_10, hw⟩ := hw
  refine j_idiv X g_10 ⟨by decide, by decide⟩ (by decide) (by decide) dX11_become_71 ?_
  refine j_iadd X dX11_become_72 ?_
  obtain ⟨g_11, hw⟩ := hw
  refine k_v h (r_V (C := RX4) (ci := 4) (As := [.int (iv x2), .int (iv (σ_6 7 0 3)), .int (iv ((σ_6 7 0 3) + (Int.tdiv r_9 4)))]) (rest := []) X h (c_X4_change l D ct ad L φ N0 σ_8 j1 x2 (σ_6 7 0 3) ((σ_6 7 0 3) + (Int.tdiv r_9 4)) _ hw) rfl rfl ⟨Nat.le_of_ble_eq_true rfl, Nat.le_of_ble_eq_true rfl⟩ kw_776 kw_777 kw_778 kw_131 kw_779 ⟨rfl, pd_X4_change⟩ (h.2.2.1 j1 g_11).1 rfl rfl rfl hl.1 rfl (Nat.le_of_ble_eq_true rfl) ⟨Nat.le_of_ble_eq_true rfl, Nat.le_of_ble_eq_true rfl⟩ dX11_become_73) (fun σ_12 H locs hw h => ?_)
  exact k_vr X h hw dX11_become_76
set_option maxRecDepth 100000 in
set_option maxHeartbeats 4000000 in
theorem lb_X11_become_12 (X : Cx p s m meth c args cX11_become 5 none RX11 D ct L φ N0) (σ : St) (j1 : Nat) (x2 : Int) (y0 : Int) (H : Heap) (locs : List Loc) (ls : Array Slot) (hw : wp_X11_become_12 Q σ j1 x2 y0) (h : Hs D ct ad L φ N0 s.heap σ H locs) (hl : lv_has ls 5 [(0, .ref (ad 11 0)), (1, .ref (ad 4 j1)), (2, .int (iv x2))]) : W p l e ({ frames := 3, cells := 0, slots := 0, locals := 62 } : Room) s m args below meth c H locs 0 0 (MQ below (Qv D ct ad L φ N0 Q) args s 0 0 (AA N0)) (F0 m 12 ls [.int (iv y0)]) := by
  have hF := X.2.2.2.2.2.2.2.2.1
  unfold wp_X11_become_12 at hw
  refine lv_istore_n (lv' := [(3, .int (iv y0)), (0, .ref (ad 11 0)), (1, .ref (ad 4 j1)), (2, .int (iv x2))]) X.1 X.2.1 dX11_become_12 rfl hl (by decide) rfl (fun ls hl => ?_)
  refine lv_iload_n X.1 X.2.1 dX11_become_13 rfl (lv_at hl 3 rfl) ?_
  obtain ⟨g_13, hwt, hwf⟩ := hw
  refine j_if_ne (tgt := 21) X g_13 dX11_become_14 (by decide) (fun c_14 => ?_) (fun c_14 => ?_)
  · have hw := hwt c_14
    refine j_iconst X dX11_become_21 ?_
    exact lb_X11_become_22 X σ j1 x2 y0 0 _ _ _ hw h (lv_sub hl [1, 2, 3, 0] rfl)
  · have hw := hwf c_14
    refine j_iconst X dX11_become_17 ?_
    refine lv_goto (tgt := 22) X.1 X.2.1 dX11_become_18 (by decide) ?_
    exact lb_X11_become_22 X σ j1 x2 y0 1 _ _ _ hw h (lv_sub hl [1, 2, 3, 0] rfl)
theorem pd_X11_become : yX11_become.cls ≠ "java/lang/invoke/MethodHandle" ∧ yX11_become.cls ≠ "java/lang/invoke/VarHandle" ∧ (parseMethodDescriptor yX11_become.desc).map (fun d => d.parameters.length) = some 2 := by decide +kernel
set_option maxRecDepth 100000 in
set_option maxHeartbeats 4000000 in
theorem c_X11_become (l : Launch) (D : va_G) (ct : Nat → ClassId) (ad : Nat → Nat → Nat) (L : List (Nat × Nat)) (φ : Nat → Nat → Nat → Bool) (N0 : Nat) (σ : St) (j1 : Nat) (x2 : Int) (Q : St → Prop) (hw : wp_X11_become σ j1 x2 Q) : Met l yX11_become (.code yX11_become cX11_become 5 none :: gw) ({ frames := 3, cells := 0, slots := 0, locals := 62 } : Room) (Pm D ct ad L φ N0 σ [.ref (ad 11 0), .ref (ad 4 j1), .int (iv x2)]) (Qv D ct ad L φ N0 Q) 0 0 (AA N0) := by
  refine m_of (by decide) (fun p e s m below meth c X hnm h => ?_)
  have hF := X.2.2.2.2.2.2.2.2.1
  have hl := lv_entry ([.ref (ad 11 0), .ref (ad 4 j1), .int (iv x2)]) (n := 5) (Nat.le_of_ble_eq_true rfl)
  rw [lg_entry_eq]
  generalize (lg_sl ([.ref (ad 11 0), .ref (ad 4 j1), .int (iv x2)]) ++ List.replicate (5 - (lg_sl ([.ref (ad 11 0), .ref (ad 4 j1), .int (iv x2)])).length) Slot.unset).toArray = ls at hl ⊢
  have hl : lv_has ls 5 [(0, .ref (ad 11 0)), (1, .ref (ad 4 j1)), (2, .int (iv x2))] := hl
  have h : Hs D ct ad L φ N0 s.heap σ s.heap [] := h
  unfold wp_X11_become at hw
  refine lv_aload_n X.1 X.2.1 dX11_become_0 rfl (lv_at hl 1 rfl) ?_
  obtain ⟨g_15, hw⟩ := hw
  refine r_getN (ci := 4) X inw_4 h (h.2.2.1 j1 g_15).1 rfl rfl 8 (by decide) kw_721 rfl dX11_become_1 ?_
  obtain ⟨g_16, hwt, hwf⟩ := hw
  refine j_if_ne (tgt := 11) X g_16 dX11_become_4 (by decide) (fun c_17 => ?_) (fun c_17 => ?_)
  · have hw := hwt c_17
    refine j_iconst X dX11_become_11 ?_
    exact lb_X11_become_12 X σ j1 x2 0 _ _ _ hw h (lv_sub hl [0, 1, 2] rfl)
  · have hw := hwf c_17
    refine j_iconst X dX11_become_7 ?_
    refine lv_goto (tgt := 12) X.1 X.2.1 dX11_become_8 (by decide) ?_
    exact lb_X11_become_12 X σ j1 x2 1 _ _ _ hw h (lv_sub hl [0, 1, 2] rfl)
end
section
variable {p : Program} {l : Launch} {e : Env} {s : State} {m : MethodId} {args : Array Value} {below : List Frame} {meth : Method} {c : Code} {D : va_G} {ct : Nat → ClassId} {ad : Nat → Nat → Nat} {L : List (Nat × Nat)} {φ : Nat → Nat → Nat → Bool} {N0 : Nat}
variable {Q : Option Nat → St → Prop}
theorem pd_X11_logAt : yX11_logAt.cls ≠ "java/lang/invoke/MethodHandle" ∧ yX11_logAt.cls ≠ "java/lang/invoke/VarHandle" ∧ (parseMethodDescriptor yX11_logAt.desc).map (fun d => d.parameters.length) = some 1 := by decide +kernel
set_option maxRecDepth 100000 in
set_option maxHeartbeats 4000000 in
theorem c_X11_logAt (l : Launch) (D : va_G) (ct : Nat → ClassId) (ad : Nat → Nat → Nat) (L : List (Nat × Nat)) (φ : Nat → Nat → Nat → Bool) (N0 : Nat) (σ : St) (x1 : Int) (Q : Option Nat → St → Prop) (hw : wp_X11_logAt σ x1 Q) : Met l yX11_logAt (.code yX11_logAt cX11_logAt 2 (some (.object "TimberValley$Log")) :: gw) ({ frames := 1, cells := 0, slots := 0, locals := 22 } : Room) (Pm D ct ad L φ N0 σ [.ref (ad 11 0), .int (iv x1)]) (Qo D ct ad L φ N0 4 Q) 0 0 (AA N0) := by
  refine m_of (by decide) (fun p e s m below meth c X hnm h => ?_)
  have hF := X.2.2.2.2.2.2.2.2.1
  have hl := lv_entry ([.ref (ad 11 0), .int (iv x1)]) (n := 2) (Nat.le_of_ble_eq_true rfl)
  rw [lg_entry_eq]
  generalize (lg_sl ([.ref (ad 11 0), .int (iv x1)]) ++ List.replicate (2 - (lg_sl ([.ref (ad 11 0), .int (iv x1)])).length) Slot.unset).toArray = ls at hl ⊢
  have hl : lv_has ls 2 [(0, .ref (ad 11 0)), (1, .int (iv x1))] := hl
  have h : Hs D ct ad L φ N0 s.heap σ s.heap [] := h
  unfold wp_X11_logAt at hw
  refine lv_iload_n X.1 X.2.1 dX11_logAt_0 rfl (lv_at hl 1 rfl) ?_
  refine j_iconst X dX11_logAt_1 ?_
  refine lv_aload_n X.1 X.2.1 dX11_logAt_2 rfl (lv_at hl 0 rfl) ?_
  refine r_get (ci := 11) X inw_11 h (hF.1 11 rfl).1 rfl rfl 4 (by decide) kw_462 rfl dX11_logAt_3 ?_
  refine j_iconst X dX11_logAt_6 ?_
  refine j_isub X dX11_logAt_7 ?_
  refine k_i h (r_S (As := [.int (iv x1), .int (iv 0), .int (iv ((σ 11 0 4) - 1))]) (rest := []) X h (c_X11_within l D ct ad L φ N0 σ x1 0 ((σ 11 0 4) - 1) _ hw) rfl rfl ⟨Nat.le_of_ble_eq_true rfl, Nat.le_of_ble_eq_true rfl⟩ kw_526 kw_527 kw_120 kw_528 pd_X11_within rfl hl.1 rfl (Nat.le_of_ble_eq_true rfl) ⟨Nat.le_of_ble_eq_true rfl, Nat.le_of_ble_eq_true rfl⟩ dX11_logAt_8) (fun r_2 σ_1 H locs hw h => ?_)
  obtain ⟨g_3, hwt, hwf⟩ := hw
  refine j_if_eq (tgt := 23) X g_3 dX11_logAt_11 (by decide) (fun c_8 => ?_) (fun c_8 => ?_)
  · have hw := hwt c_8
    refine lv_null X.1 X.2.1 dX11_logAt_23 ?_
    exact k_on X h hw dX11_logAt_24
  · have hw := hwf c_8
    refine lv_aload_n X.1 X.2.1 dX11_logAt_14 rfl (lv_at hl 0 rfl) ?_
    refine r_getR (ci := 11) X inw_11 h (hF.1 11 rfl).1 rfl rfl 3 (by decide) kw_461 rfl ((hF.1 11 rfl).2 3) dX11_logAt_15 ?_
    refine lv_iload_n X.1 X.2.1 dX11_logAt_18 rfl (lv_at hl 1 rfl) ?_
    obtain ⟨g_4, g_5, hwt, hwf⟩ := hw
    refine r_aaD (n := 300) (t := 3) X h (hF.1 77 rfl).1 rfl rfl (by decide) g_4 g_5 dX11_logAt_19 (fun c_6 => ?_) (fun c_6 => ?_)
    · have hw := hwt c_6
      refine lv_goto (tgt := 24) X.1 X.2.1 dX11_logAt_20 (by decide) ?_
      exact k_on X h hw dX11_logAt_24
    · have hw := hwf c_6 (h.2.2.2.2.2.1 _ c_6)
      refine lv_goto (tgt := 24) X.1 X.2.1 dX11_logAt_20 (by decide) ?_
      exact k_os X h hw dX11_logAt_24
end
section
variable {p : Program} {l : Launch} {e : Env} {s : State} {m : MethodId} {args : Array Value} {below : List Frame} {meth : Method} {c : Code} {D : va_G} {ct : Nat → ClassId} {ad : Nat → Nat → Nat} {L : List (Nat × Nat)} {φ : Nat → Nat → Nat → Bool} {N0 : Nat}
variable {Q : Int → St → Prop}
theorem pd_X11_log : yX11_log.cls ≠ "java/lang/invoke/MethodHandle" ∧ yX11_log.cls ≠ "java/lang/invoke/VarHandle" ∧ (parseMethodDescriptor yX11_log.desc).map (fun d => d.parameters.length) = some 2 := by decide +kernel
set_option maxRecDepth 100000 in
set_option maxHeartbeats 4000000 in
theorem c_X11_log (l : Launch) (D : va_G) (ct : Nat → ClassId) (ad : Nat → Nat → Nat) (L : List (Nat × Nat)) (φ : Nat → Nat → Nat → Bool) (N0 : Nat) (σ : St) (x1 : Int) (x2 : Int) (Q : Int → St → Prop) (hw : wp_X11_log σ x1 x2 Q) : Met l yX11_log (.code yX11_log cX11_log 4 (some .int) :: gw) ({ frames := 2, cells := 0, slots := 0, locals := 43 } : Room) (Pm D ct ad L φ N0 σ [.ref (ad 11 0), .int (iv x1), .int (iv x2)]) (Qi D ct ad L φ N0 Q) 0 0 (AA N0) := by
  refine m_of (by decide) (fun p e s m below meth c X hnm h => ?_)
  have hF := X.2.2.2.2.2.2.2.2.1
  have hl := lv_entry ([.ref (ad 11 0), .int (iv x1), .int (iv x2)]) (n := 4) (Nat.le_of_ble_eq_true rfl)
  rw [lg_entry_eq]
  generalize (lg_sl ([.ref (ad 11 0), .int (iv x1), .int (iv x2)]) ++ List.replicate (4 - (lg_sl ([.ref (ad 11 0), .int (iv x1), .int (iv x2)])).length) Slot.unset).toArray = ls at hl ⊢
  have hl : lv_has ls 4 [(0, .ref (ad 11 0)), (1, .int (iv x1)), (2, .int (iv x2))] := hl
  have h : Hs D ct ad L φ N0 s.heap σ s.heap [] := h
  unfold wp_X11_log at hw
  refine lv_aload_n X.1 X.2.1 dX11_log_0 rfl (lv_at hl 0 rfl) ?_
  refine lv_iload_n X.1 X.2.1 dX11_log_1 rfl (lv_at hl 1 rfl) ?_
  refine k_o h (r_V (C := RX11) (ci := 11) (As := [.int (iv x1)]) (rest := []) X h (c_X11_logAt l D ct ad L φ N0 σ x1 _ hw) rfl rfl ⟨Nat.le_of_ble_eq_true rfl, Nat.le_of_ble_eq_true rfl⟩ kw_794 kw_796 kw_12 kw_120 kw_797 ⟨rfl, pd_X11_logAt⟩ (hF.1 11 rfl).1 rfl rfl rfl hl.1 rfl (Nat.le_of_ble_eq_true rfl) ⟨Nat.le_of_ble_eq_true rfl, Nat.le_of_ble_eq_true rfl⟩ dX11_log_2) (fun o_6 σ_1 H locs hw h => ?_)
  cases o_6 with
  | none =>
    refine lv_astore_nN (lv' := [(3, .null), (0, .ref (ad 11 0)), (1, .int (iv x1)), (2, .int (iv x2))]) X.1 X.2.1 dX11_log_5 rfl hl (by decide) rfl (fun ls hl => ?_)
    refine lv_aload_nN X.1 X.2.1 dX11_log_6 rfl (lv_at hl 0 rfl) ?_
    refine lv_ifnonnullN X.1 X.2.1 dX11_log_7 ?_
    refine j_iconst X dX11_log_10 ?_
    refine lv_goto (tgt := 19) X.1 X.2.1 dX11_log_11 (by decide) ?_
    exact k_ir X rfl h hw dX11_log_19
  | some j_2 =>
    refine lv_astore_n (lv' := [(3, .ref (ad 4 j_2)), (0, .ref (ad 11 0)), (1, .int (iv x1)), (2, .int (iv x2))]) X.1 X.2.1 dX11_log_5 rfl hl (by decide) rfl (fun ls hl => ?_)
    refine lv_aload_n X.1 X.2.1 dX11_log_6 rfl (lv_at hl 0 rfl) ?_
    refine lv_ifnonnull (tgt := 14) X.1 X.2.1 dX11_log_7 (by decide) ?_
    refine lv_aload_n X.1 X.2.1 dX11_log_14 rfl (lv_at hl 0 rfl) ?_
    refine lv_iload_n X.1 X.2.1 dX11_log_15 rfl (lv_at hl 3 rfl) ?_
    obtain ⟨g_3, hw⟩ := hw
    refine k_i h (r_V (C := RX4) (ci := 4) (As := [.int (iv x2)]) (rest := []) X h (c_X4_told l D ct ad L φ N0 σ_1 j_2 x2 _ hw) rfl rfl ⟨Nat.le_of_ble_eq_true rfl, Nat.le_of_ble_eq_true rfl⟩ kw_798 kw_799 kw_800 kw_131 kw_801 ⟨rfl, pd_X4_told⟩ (h.2.2.1 j_2 g_3).1 rfl rfl rfl hl.1 rfl (Nat.le_of_ble_eq_true rfl) ⟨Nat.le_of_ble_eq_true rfl, Nat.le_of_ble_eq_true rfl⟩ dX11_log_16) (fun r_5 σ_4 H locs hw h => ?_)
    exact k_ir X rfl h hw dX11_log_19
end
section
variable {p : Program} {l : Launch} {e : Env} {s : State} {m : MethodId} {args : Array Value} {below : List Frame} {meth : Method} {c : Code} {D : va_G} {ct : Nat → ClassId} {ad : Nat → Nat → Nat} {L : List (Nat × Nat)} {φ : Nat → Nat → Nat → Bool} {N0 : Nat}
variable {Q : Int → St → Prop}
theorem pd_X11_iron : yX11_iron.cls ≠ "java/lang/invoke/MethodHandle" ∧ yX11_iron.cls ≠ "java/lang/invoke/VarHandle" ∧ (parseMethodDescriptor yX11_iron.desc).map (fun d => d.parameters.length) = some 1 := by decide +kernel
set_option maxRecDepth 100000 in
set_option maxHeartbeats 4000000 in
theorem c_X11_iron (l : Launch) (D : va_G) (ct : Nat → ClassId) (ad : Nat → Nat → Nat) (L : List (Nat × Nat)) (φ : Nat → Nat → Nat → Bool) (N0 : Nat) (σ : St) (x1 : Int) (Q : Int → St → Prop) (hw : wp_X11_iron σ x1 Q) : Met l yX11_iron (.code yX11_iron cX11_iron 2 (some .int) :: gw) ({ frames := 1, cells := 0, slots := 0, locals := 22 } : Room) (Pm D ct ad L φ N0 σ [.ref (ad 11 0), .int (iv x1)]) (Qi D ct ad L φ N0 Q) 0 0 (AA N0) := by
  refine m_of (by decide) (fun p e s m below meth c X hnm h => ?_)
  have hF := X.2.2.2.2.2.2.2.2.1
  have hl := lv_entry ([.ref (ad 11 0), .int (iv x1)]) (n := 2) (Nat.le_of_ble_eq_true rfl)
  rw [lg_entry_eq]
  generalize (lg_sl ([.ref (ad 11 0), .int (iv x1)]) ++ List.replicate (2 - (lg_sl ([.ref (ad 11 0), .int (iv x1)])).length) Slot.unset).toArray = ls at hl ⊢
  have hl : lv_has ls 2 [(0, .ref (ad 11 0)), (1, .int (iv x1))] := hl
  have h : Hs D ct ad L φ N0 s.heap σ s.heap [] := h
  unfold wp_X11_iron at hw
  refine lv_iload_n X.1 X.2.1 dX11_iron_0 rfl (lv_at hl 1 rfl) ?_
  refine j_iconst X dX11_iron_1 ?_
  refine j_sipush X dX11_iron_2 (by decide) ?_
  refine k_i h (r_S (As := [.int (iv x1), .int (iv 0), .int (iv 500)]) (rest := []) X h (c_X11_within l D ct ad L φ N0 σ x1 0 500 _ hw) rfl rfl ⟨Nat.le_of_ble_eq_true rfl, Nat.le_of_ble_eq_true rfl⟩ kw_526 kw_527 kw_120 kw_528 pd_X11_within rfl hl.1 rfl (Nat.le_of_ble_eq_true rfl) ⟨Nat.le_of_ble_eq_true rfl, Nat.le_of_ble_eq_true rfl⟩ dX11_iron_5) (fun r_2 σ_1 H locs hw h => ?_)
  obtain ⟨g_3, hwt, hwf⟩ := hw
  refine j_if_eq (tgt := 23) X g_3 dX11_iron_8 (by decide) (fun c_7 => ?_) (fun c_7 => ?_)
  · have hw := hwt c_7
    refine j_iconst X dX11_iron_23 ?_
    exact k_ir X rfl h hw dX11_iron_24
  · have hw := hwf c_7
    refine lv_aload_n X.1 X.2.1 dX11_iron_11 rfl (lv_at hl 0 rfl) ?_
    refine r_get (ci := 11) X inw_11 h (hF.1 11 rfl).1 rfl rfl 7 (by decide) kw_465 rfl dX11_iron_12 ?_
    refine lv_iload_n X.1 X.2.1 dX11_iron_15 rfl (lv_at hl 1 rfl) ?_
    refine j_iadd X dX11_iron_16 ?_
    refine j_sipush X dX11_iron_17 (by decide) ?_
    obtain ⟨g_4, hwt, hwf⟩ := hw
    refine j_cmp_le (tgt := 25) X g_4 ⟨by decide, by decide⟩ dX11_iron_20 (by decide) (fun c_6 => ?_) (fun c_6 => ?_)
    · have hw := hwt c_6
      refine lv_aload_n X.1 X.2.1 dX11_iron_25 rfl (lv_at hl 0 rfl) ?_
      refine lv_dup X.1 X.2.1 dX11_iron_26 rfl ?_
      refine r_get (ci := 11) X inw_11 h (hF.1 11 rfl).1 rfl rfl 7 (by decide) kw_465 rfl dX11_iron_27 ?_
      refine lv_iload_n X.1 X.2.1 dX11_iron_30 rfl (lv_at hl 1 rfl) ?_
      refine j_iadd X dX11_iron_31 ?_
      refine r_put (ci := 11) X inw_11 tyX11 tyX11_ok nmX11 h (hF.1 11 rfl).1 rfl rfl 7 (by decide) kw_465 rfl rfl rfl (Nat.le_of_ble_eq_true rfl) rfl rfl dX11_iron_32 (fun H locs h => ?_)
      obtain ⟨σ_5, eσ_5⟩ : ∃ z : St, z = st σ_1 11 0 7 ((σ_1 11 0 7) + x1) := ⟨_, rfl⟩
      rw [← eσ_5] at h
      have hw := hw σ_5 eσ_5
      refine lv_aload_n X.1 X.2.1 dX11_iron_35 rfl (lv_at hl 0 rfl) ?_
      refine r_get (ci := 11) X inw_11 h (hF.1 11 rfl).1 rfl rfl 7 (by decide) kw_465 rfl dX11_iron_36 ?_
      exact k_ir X rfl h hw dX11_iron_39
    · have hw := hwf c_6
      refine j_iconst X dX11_iron_23 ?_
      exact k_ir X rfl h hw dX11_iron_24
end
section
variable {p : Program} {l : Launch} {e : Env} {s : State} {m : MethodId} {args : Array Value} {below : List Frame} {meth : Method} {c : Code} {D : va_G} {ct : Nat → ClassId} {ad : Nat → Nat → Nat} {L : List (Nat × Nat)} {φ : Nat → Nat → Nat → Bool} {N0 : Nat}
variable {Q : Option Nat → St → Prop}
theorem pd_X11_wayAt : yX11_wayAt.cls ≠ "java/lang/invoke/MethodHandle" ∧ yX11_wayAt.cls ≠ "java/lang/invoke/VarHandle" ∧ (parseMethodDescriptor yX11_wayAt.desc).map (fun d => d.parameters.length) = some 1 := by decide +kernel
set_option maxRecDepth 100000 in
set_option maxHeartbeats 4000000 in
theorem c_X11_wayAt (l : Launch) (D : va_G) (ct : Nat → ClassId) (ad : Nat → Nat → Nat) (L : List (Nat × Nat)) (φ : Nat → Nat → Nat → Bool) (N0 : Nat) (σ : St) (x1 : Int) (Q : Option Nat → St → Prop) (hw : wp_X11_wayAt σ x1 Q) : Met l yX11_wayAt (.code yX11_wayAt cX11_wayAt 2 (some (.object "TimberValley$Way")) :: gw) ({ frames := 1, cells := 0, slots := 0, locals := 22 } : Room) (Pm D ct ad L φ N0 σ [.ref (ad 11 0), .int (iv x1)]) (Qo D ct ad L φ N0 10 Q) 0 0 (AA N0) := by
  refine m_of (by decide) (fun p e s m below meth c X hnm h => ?_)
  have hF := X.2.2.2.2.2.2.2.2.1
  have hl := lv_entry ([.ref (ad 11 0), .int (iv x1)]) (n := 2) (Nat.le_of_ble_eq_true rfl)
  rw [lg_entry_eq]
  generalize (lg_sl ([.ref (ad 11 0), .int (iv x1)]) ++ List.replicate (2 - (lg_sl ([.ref (ad 11 0), .int (iv x1)])).length) Slot.unset).toArray = ls at hl ⊢
  have hl : lv_has ls 2 [(0, .ref (ad 11 0)), (1, .int (iv x1))] := hl
  have h : Hs D ct ad L φ N0 s.heap σ s.heap [] := h
  unfold wp_X11_wayAt at hw
  refine lv_iload_n X.1 X.2.1 dX11_wayAt_0 rfl (lv_at hl 1 rfl) ?_
  refine j_iconst X dX11_wayAt_1 ?_
  refine lv_aload_n X.1 X.2.1 dX11_wayAt_2 rfl (lv_at hl 0 rfl) ?_
  refine r_get (ci := 11) X inw_11 h (hF.1 11 rfl).1 rfl rfl 6 (by decide) kw_464 rfl dX11_wayAt_3 ?_
  refine j_iconst X dX11_wayAt_6 ?_
  refine j_isub X dX11_wayAt_7 ?_
  refine k_i h (r_S (As := [.int (iv x1), .int (iv 0), .int (iv ((σ 11 0 6) - 1))]) (rest := []) X h (c_X11_within l D ct ad L φ N0 σ x1 0 ((σ 11 0 6) - 1) _ hw) rfl rfl ⟨Nat.le_of_ble_eq_true rfl, Nat.le_of_ble_eq_true rfl⟩ kw_526 kw_527 kw_120 kw_528 pd_X11_within rfl hl.1 rfl (Nat.le_of_ble_eq_true rfl) ⟨Nat.le_of_ble_eq_true rfl, Nat.le_of_ble_eq_true rfl⟩ dX11_wayAt_8) (fun r_2 σ_1 H locs hw h => ?_)
  obtain ⟨g_3, hwt, hwf⟩ := hw
  refine j_if_eq (tgt := 23) X g_3 dX11_wayAt_11 (by decide) (fun c_8 => ?_) (fun c_8 => ?_)
  · have hw := hwt c_8
    refine lv_null X.1 X.2.1 dX11_wayAt_23 ?_
    exact k_on X h hw dX11_wayAt_24
  · have hw := hwf c_8
    refine lv_aload_n X.1 X.2.1 dX11_wayAt_14 rfl (lv_at hl 0 rfl) ?_
    refine r_getR (ci := 11) X inw_11 h (hF.1 11 rfl).1 rfl rfl 5 (by decide) kw_463 rfl ((hF.1 11 rfl).2 5) dX11_wayAt_15 ?_
    refine lv_iload_n X.1 X.2.1 dX11_wayAt_18 rfl (lv_at hl 1 rfl) ?_
    obtain ⟨g_4, g_5, hwt, hwf⟩ := hw
    refine r_aaD (n := 40) (t := 4) X h (hF.1 78 rfl).1 rfl rfl (by decide) g_4 g_5 dX11_wayAt_19 (fun c_6 => ?_) (fun c_6 => ?_)
    · have hw := hwt c_6
      refine lv_goto (tgt := 24) X.1 X.2.1 dX11_wayAt_20 (by decide) ?_
      exact k_on X h hw dX11_wayAt_24
    · have hw := hwf c_6 (h.2.2.2.2.2.2.1 _ c_6)
      refine lv_goto (tgt := 24) X.1 X.2.1 dX11_wayAt_20 (by decide) ?_
      exact k_os X h hw dX11_wayAt_24
end
section
variable {p : Program} {l : Launch} {e : Env} {s : State} {m : MethodId} {args : Array Value} {below : List Frame} {meth : Method} {c : Code} {D : va_G} {ct : Nat → ClassId} {ad : Nat → Nat → Nat} {L : List (Nat × Nat)} {φ : Nat → Nat → Nat → Bool} {N0 : Nat}
variable {Q : Int → St → Prop}
set_option maxRecDepth 100000 in
set_option maxHeartbeats 4000000 in
theorem lb_X11_lay_59 (X : Cx p s m meth c args cX11_lay 4 (some .boolean) RX11 D ct L φ N0) (σ : St) (x2 : Int) (j3 : Nat) (y0 : Int) (y1 : Int) (H : Heap) (locs : List Loc) (ls : Array Slot) (hw : wp_X11_lay_59 Q σ x2 j3 y0 y1) (h : Hs D ct ad L φ N0 s.heap σ H locs) (hl : lv_has ls 4 [(2, .int (iv x2)), (3, .ref (ad 10 j3))]) : W p l e ({ frames := 2, cells := 0, slots := 0, locals := 43 } : Room) s m args below meth c H locs 0 0 (MQ below (Qi D ct ad L φ N0 Q) args s 0 0 (AA N0)) (F0 m 59 ls [.int (iv y0), .int (iv y1), .ref (ad 11 0)]) := by
  have hF := X.2.2.2.2.2.2.2.2.1
  unfold wp_X11_lay_59 at hw
  refine j_iadd X dX11_lay_59 ?_
  refine r_put (ci := 11) X inw_11 tyX11 tyX11_ok nmX11 h (hF.1 11 rfl).1 rfl rfl 7 (by decide) kw_465 rfl rfl rfl (Nat.le_of_ble_eq_true rfl) rfl rfl dX11_lay_60 (fun H locs h => ?_)
  obtain ⟨σ_1, eσ_1⟩ : ∃ z : St, z = st σ 11 0 7 (y1 + y0) := ⟨_, rfl⟩
  rw [← eσ_1] at h
  have hw := hw σ_1 eσ_1
  refine lv_aload_n X.1 X.2.1 dX11_lay_63 rfl (lv_at hl 1 rfl) ?_
  refine lv_iload_n X.1 X.2.1 dX11_lay_64 rfl (lv_at hl 0 rfl) ?_
  obtain ⟨g_2, g_3, hw⟩ := hw
  refine r_putN (ci := 10) X inw_10 tyX10 tyX10_ok nmX10 h (h.2.2.2.1 j3 g_2) rfl rfl 3 (by decide) kw_825 rfl (nb_n g_3) (nb_f g_3) (Nat.le_of_ble_eq_true rfl) rfl rfl dX11_lay_65 (fun H locs h => ?_)
  obtain ⟨σ_4, eσ_4⟩ : ∃ z : St, z = st σ_1 10 j3 3 x2 := ⟨_, rfl⟩
  rw [← eσ_4] at h
  have hw := hw σ_4 eσ_4
  refine j_iconst X dX11_lay_68 ?_
  exact k_ir X rfl h hw dX11_lay_69
set_option maxRecDepth 100000 in
set_option maxHeartbeats 4000000 in
theorem lb_X11_lay_43 (X : Cx p s m meth c args cX11_lay 4 (some .boolean) RX11 D ct L φ N0) (σ : St) (x2 : Int) (j3 : Nat) (H : Heap) (locs : List Loc) (ls : Array Slot) (hw : wp_X11_lay_43 Q σ x2 j3) (h : Hs D ct ad L φ N0 s.heap σ H locs) (hl : lv_has ls 4 [(0, .ref (ad 11 0)), (2, .int (iv x2)), (3, .ref (ad 10 j3))]) : W p l e ({ frames := 2, cells := 0, slots := 0, locals := 43 } : Room) s m args below meth c H locs 0 0 (MQ below (Qi D ct ad L φ N0 Q) args s 0 0 (AA N0)) (F0 m 43 ls []) := by
  have hF := X.2.2.2.2.2.2.2.2.1
  unfold wp_X11_lay_43 at hw
  refine lv_aload_n X.1 X.2.1 dX11_lay_43 rfl (lv_at hl 0 rfl) ?_
  refine lv_dup X.1 X.2.1 dX11_lay_44 rfl ?_
  refine r_get (ci := 11) X inw_11 h (hF.1 11 rfl).1 rfl rfl 7 (by decide) kw_465 rfl dX11_lay_45 ?_
  refine lv_iload_n X.1 X.2.1 dX11_lay_48 rfl (lv_at hl 1 rfl) ?_
  obtain ⟨g_5, hwt, hwf⟩ := hw
  refine j_if_eq (tgt := 57) X g_5 dX11_lay_49 (by decide) (fun c_6 => ?_) (fun c_6 => ?_)
  · have hw := hwt c_6
    refine j_bipush X dX11_lay_57 (by decide) ?_
    exact lb_X11_lay_59 X σ x2 j3 10 (σ 11 0 7) _ _ _ hw h (lv_sub hl [1, 2] rfl)
  · have hw := hwf c_6
    refine j_bipush X dX11_lay_52 (by decide) ?_
    refine lv_goto (tgt := 59) X.1 X.2.1 dX11_lay_54 (by decide) ?_
    exact lb_X11_lay_59 X σ x2 j3 (-10) (σ 11 0 7) _ _ _ hw h (lv_sub hl [1, 2] rfl)
theorem pd_X11_lay : yX11_lay.cls ≠ "java/lang/invoke/MethodHandle" ∧ yX11_lay.cls ≠ "java/lang/invoke/VarHandle" ∧ (parseMethodDescriptor yX11_lay.desc).map (fun d => d.parameters.length) = some 2 := by decide +kernel
set_option maxRecDepth 100000 in
set_option maxHeartbeats 4000000 in
theorem c_X11_lay (l : Launch) (D : va_G) (ct : Nat → ClassId) (ad : Nat → Nat → Nat) (L : List (Nat × Nat)) (φ : Nat → Nat → Nat → Bool) (N0 : Nat) (σ : St) (x1 : Int) (x2 : Int) (Q : Int → St → Prop) (hw : wp_X11_lay σ x1 x2 Q) : Met l yX11_lay (.code yX11_lay cX11_lay 4 (some .boolean) :: gw) ({ frames := 2, cells := 0, slots := 0, locals := 43 } : Room) (Pm D ct ad L φ N0 σ [.ref (ad 11 0), .int (iv x1), .int (iv x2)]) (Qi D ct ad L φ N0 Q) 0 0 (AA N0) := by
  refine m_of (by decide) (fun p e s m below meth c X hnm h => ?_)
  have hF := X.2.2.2.2.2.2.2.2.1
  have hl := lv_entry ([.ref (ad 11 0), .int (iv x1), .int (iv x2)]) (n := 4) (Nat.le_of_ble_eq_true rfl)
  rw [lg_entry_eq]
  generalize (lg_sl ([.ref (ad 11 0), .int (iv x1), .int (iv x2)]) ++ List.replicate (4 - (lg_sl ([.ref (ad 11 0), .int (iv x1), .int (iv x2)])).length) Slot.unset).toArray = ls at hl ⊢
  have hl : lv_has ls 4 [(0, .ref (ad 11 0)), (1, .int (iv x1)), (2, .int (iv x2))] := hl
  have h : Hs D ct ad L φ N0 s.heap σ s.heap [] := h
  unfold wp_X11_lay at hw
  refine lv_aload_n X.1 X.2.1 dX11_lay_0 rfl (lv_at hl 0 rfl) ?_
  refine lv_iload_n X.1 X.2.1 dX11_lay_1 rfl (lv_at hl 1 rfl) ?_
  refine k_o h (r_V (C := RX11) (ci := 11) (As := [.int (iv x1)]) (rest := []) X h (c_X11_wayAt l D ct ad L φ N0 σ x1 _ hw) rfl rfl ⟨Nat.le_of_ble_eq_true rfl, Nat.le_of_ble_eq_true rfl⟩ kw_847 kw_849 kw_13 kw_120 kw_850 ⟨rfl, pd_X11_wayAt⟩ (hF.1 11 rfl).1 rfl rfl rfl hl.1 rfl (Nat.le_of_ble_eq_true rfl) ⟨Nat.le_of_ble_eq_true rfl, Nat.le_of_ble_eq_true rfl⟩ dX11_lay_2) (fun o_20 σ_7 H locs hw h => ?_)
  cases o_20 with
  | none =>
    refine lv_astore_nN (lv' := [(3, .null), (0, .ref (ad 11 0)), (1, .int (iv x1)), (2, .int (iv x2))]) X.1 X.2.1 dX11_lay_5 rfl hl (by decide) rfl (fun ls hl => ?_)
    refine lv_aload_nN X.1 X.2.1 dX11_lay_6 rfl (lv_at hl 0 rfl) ?_
    refine lv_ifnullN (tgt := 26) X.1 X.2.1 dX11_lay_7 (by decide) ?_
    refine j_iconst X dX11_lay_26 ?_
    exact k_ir X rfl h hw dX11_lay_27
  | some j_8 =>
    refine lv_astore_n (lv' := [(3, .ref (ad 10 j_8)), (0, .ref (ad 11 0)), (1, .int (iv x1)), (2, .int (iv x2))]) X.1 X.2.1 dX11_lay_5 rfl hl (by decide) rfl (fun ls hl => ?_)
    refine lv_aload_n X.1 X.2.1 dX11_lay_6 rfl (lv_at hl 0 rfl) ?_
    refine lv_ifnull X.1 X.2.1 dX11_lay_7 ?_
    refine lv_aload_n X.1 X.2.1 dX11_lay_10 rfl (lv_at hl 0 rfl) ?_
    obtain ⟨g_9, hw⟩ := hw
    refine r_getN (ci := 10) X inw_10 h (h.2.2.2.1 j_8 g_9) rfl rfl 0 (by decide) kw_819 rfl dX11_lay_11 ?_
    refine j_iconst X dX11_lay_14 ?_
    obtain ⟨g_10, hwt, hwf⟩ := hw
    refine j_cmp_ne (tgt := 26) X g_10 ⟨by decide, by decide⟩ dX11_lay_15 (by decide) (fun c_19 => ?_) (fun c_19 => ?_)
    · have hw := hwt c_19
      refine j_iconst X dX11_lay_26 ?_
      exact k_ir X rfl h hw dX11_lay_27
    · have hw := hwf c_19
      refine lv_aload_n X.1 X.2.1 dX11_lay_18 rfl (lv_at hl 0 rfl) ?_
      obtain ⟨g_11, hw⟩ := hw
      refine r_getN (ci := 10) X inw_10 h (h.2.2.2.1 j_8 g_11) rfl rfl 3 (by decide) kw_825 rfl dX11_lay_19 ?_
      refine lv_iload_n X.1 X.2.1 dX11_lay_22 rfl (lv_at hl 3 rfl) ?_
      obtain ⟨g_12, g_13, hwt, hwf⟩ := hw
      refine j_cmp_ne (tgt := 28) X g_12 g_13 dX11_lay_23 (by decide) (fun c_18 => ?_) (fun c_18 => ?_)
      · have hw := hwt c_18
        refine lv_iload_n X.1 X.2.1 dX11_lay_28 rfl (lv_at hl 3 rfl) ?_
        obtain ⟨g_14, hwt, hwf⟩ := hw
        refine j_if_eq (tgt := 43) X g_14 dX11_lay_29 (by decide) (fun c_17 => ?_) (fun c_17 => ?_)
        · have hw := hwt c_17
          exact lb_X11_lay_43 X σ_7 x2 j_8 _ _ _ hw h (lv_sub hl [1, 3, 0] rfl)
        · have hw := hwf c_17
          refine lv_aload_n X.1 X.2.1 dX11_lay_32 rfl (lv_at hl 1 rfl) ?_
          refine r_get (ci := 11) X inw_11 h (hF.1 11 rfl).1 rfl rfl 7 (by decide) kw_465 rfl dX11_lay_33 ?_
          refine j_bipush X dX11_lay_36 (by decide) ?_
          obtain ⟨g_15, hwt, hwf⟩ := hw
          refine j_cmp_ge (tgt := 43) X g_15 ⟨by decide, by decide⟩ dX11_lay_38 (by decide) (fun c_16 => ?_) (fun c_16 => ?_)
          · have hw := hwt c_16
            exact lb_X11_lay_43 X σ_7 x2 j_8 _ _ _ hw h (lv_sub hl [1, 3, 0] rfl)
          · have hw := hwf c_16
            refine j_iconst X dX11_lay_41 ?_
            exact k_ir X rfl h hw dX11_lay_42
      · have hw := hwf c_18
        refine j_iconst X dX11_lay_26 ?_
        exact k_ir X rfl h hw dX11_lay_27
end
section
variable {p : Program} {l : Launch} {e : Env} {s : State} {m : MethodId} {args : Array Value} {below : List Frame} {meth : Method} {c : Code} {D : va_G} {ct : Nat → ClassId} {ad : Nat → Nat → Nat} {L : List (Nat × Nat)} {φ : Nat → Nat → Nat → Bool} {N0 : Nat}
variable {Q : Int → St → Prop}
set_option maxRecDepth 100000 in
set_option maxHeartbeats 4000000 in
theorem lb_X11_ironLaid_37 (X : Cx p s m meth c args cX11_ironLaid 4 (some .int) RX11 D ct L φ N0) {K4 : St → Int → Int → Prop} (hK4 : ∀ (σ : St) (x1 : Int) (x2 : Int) (H : Heap) (locs : List Loc) (ls : Array Slot), K4 σ x1 x2 → Hs D ct ad L φ N0 s.heap σ H locs → lv_has ls 4 [(0, .ref (ad 11 0)), (1, .int (iv x1)), (2, .int (iv x2))] → W p l e ({ frames := 0, cells := 0, slots := 0, locals := 0 } : Room) s m args below meth c H locs 0 0 (MQ below (Qi D ct ad L φ N0 Q) args s 0 0 (AA N0)) (F0 m 4 ls [])) (σ : St) (x2 : Int) (y0 : Int) (y1 : Int) (H : Heap) (locs : List Loc) (ls : Array Slot) (hw : wp_X11_ironLaid_37 K4 Q σ x2 y0 y1) (h : Hs D ct ad L φ N0 s.heap σ H locs) (hl : lv_has ls 4 [(0, .ref (ad 11 0)), (2, .int (iv x2))]) : W p l e ({ frames := 0, cells := 0, slots := 0, locals := 0 } : Room) s m args below meth c H locs 0 0 (MQ below (Qi D ct ad L φ N0 Q) args s 0 0 (AA N0)) (F0 m 37 ls [.int (iv y0), .int (iv y1)]) := by
  have hF := X.2.2.2.2.2.2.2.2.1
  unfold wp_X11_ironLaid_37 at hw
  refine j_iadd X dX11_ironLaid_37 ?_
  refine j_bind (fun v_1 ev_1 => ?_)
  have hw := hw v_1 ev_1
  refine lv_istore_n (lv' := [(1, .int (iv v_1)), (0, .ref (ad 11 0)), (2, .int (iv x2))]) X.1 X.2.1 dX11_ironLaid_38 rfl hl (by decide) rfl (fun ls hl => ?_)
  refine j_iinc (kk9 := 2) (lv' := [(2, .int (iv (x2 + 1))), (1, .int (iv v_1)), (0, .ref (ad 11 0))]) X dX11_ironLaid_39 hl rfl (by decide) rfl (fun ls hl => ?_)
  refine lv_goto (tgt := 4) X.1 X.2.1 dX11_ironLaid_42 (by decide) ?_
  exact hK4 σ v_1 (x2 + 1) _ _ _ hw h (lv_sub hl [2, 1, 0] rfl)
set_option maxRecDepth 100000 in
set_option maxHeartbeats 4000000 in
theorem lb_X11_ironLaid_36 (X : Cx p s m meth c args cX11_ironLaid 4 (some .int) RX11 D ct L φ N0) {K4 : St → Int → Int → Prop} (hK4 : ∀ (σ : St) (x1 : Int) (x2 : Int) (H : Heap) (locs : List Loc) (ls : Array Slot), K4 σ x1 x2 → Hs D ct ad L φ N0 s.heap σ H locs → lv_has ls 4 [(0, .ref (ad 11 0)), (1, .int (iv x1)), (2, .int (iv x2))] → W p l e ({ frames := 0, cells := 0, slots := 0, locals := 0 } : Room) s m args below meth c H locs 0 0 (MQ below (Qi D ct ad L φ N0 Q) args s 0 0 (AA N0)) (F0 m 4 ls [])) (σ : St) (x2 : Int) (y0 : Int) (H : Heap) (locs : List Loc) (ls : Array Slot) (hw : wp_X11_ironLaid_36 K4 Q σ x2 y0) (h : Hs D ct ad L φ N0 s.heap σ H locs) (hl : lv_has ls 4 [(0, .ref (ad 11 0)), (2, .int (iv x2))]) : W p l e ({ frames := 0, cells := 0, slots := 0, locals := 0 } : Room) s m args below meth c H locs 0 0 (MQ below (Qi D ct ad L φ N0 Q) args s 0 0 (AA N0)) (F0 m 36 ls [.int (iv y0)]) := by
  have hF := X.2.2.2.2.2.2.2.2.1
  unfold wp_X11_ironLaid_36 at hw
  refine j_iconst X dX11_ironLaid_36 ?_
  exact lb_X11_ironLaid_37 X hK4 σ x2 0 y0 _ _ _ hw h (lv_sub hl [0, 1] rfl)
set_option maxRecDepth 100000 in
set_option maxHeartbeats 4000000 in
theorem lb_X11_ironLaid_4 (X : Cx p s m meth c args cX11_ironLaid 4 (some .int) RX11 D ct L φ N0) : ∀ (n : Nat) (σ : St) (x1 : Int) (x2 : Int) (H : Heap) (locs : List Loc) (ls : Array Slot), wp_X11_ironLaid_4 Q n σ x1 x2 → Hs D ct ad L φ N0 s.heap σ H locs → lv_has ls 4 [(0, .ref (ad 11 0)), (1, .int (iv x1)), (2, .int (iv x2))] → W p l e ({ frames := 0, cells := 0, slots := 0, locals := 0 } : Room) s m args below meth c H locs 0 0 (MQ below (Qi D ct ad L φ N0 Q) args s 0 0 (AA N0)) (F0 m 4 ls []) := by
  have hF := X.2.2.2.2.2.2.2.2.1
  intro n
  induction n with
  | zero => intro σ x1 x2 H locs ls hw; exact hw.elim
  | succ n ih =>
    intro σ x1 x2 H locs ls hw h hl
    unfold wp_X11_ironLaid_4 at hw
    refine lv_iload_n X.1 X.2.1 dX11_ironLaid_4 rfl (lv_at hl 2 rfl) ?_
    refine lv_aload_n X.1 X.2.1 dX11_ironLaid_5 rfl (lv_at hl 0 rfl) ?_
    refine r_get (ci := 11) X inw_11 h (hF.1 11 rfl).1 rfl rfl 6 (by decide) kw_464 rfl dX11_ironLaid_6 ?_
    obtain ⟨g_2, g_3, hwt, hwf⟩ := hw
    refine j_cmp_ge (tgt := 45) X g_2 g_3 dX11_ironLaid_9 (by decide) (fun c_11 => ?_) (fun c_11 => ?_)
    · have hw := hwt c_11
      refine lv_iload_n X.1 X.2.1 dX11_ironLaid_45 rfl (lv_at hl 1 rfl) ?_
      exact k_ir X rfl h hw dX11_ironLaid_46
    · have hw := hwf c_11
      refine lv_aload_n X.1 X.2.1 dX11_ironLaid_12 rfl (lv_at hl 0 rfl) ?_
      refine r_getR (ci := 11) X inw_11 h (hF.1 11 rfl).1 rfl rfl 5 (by decide) kw_463 rfl ((hF.1 11 rfl).2 5) dX11_ironLaid_13 ?_
      refine lv_iload_n X.1 X.2.1 dX11_ironLaid_16 rfl (lv_at hl 2 rfl) ?_
      obtain ⟨g_4, g_5, hwt, hwf⟩ := hw
      refine r_aaD (n := 40) (t := 4) X h (hF.1 78 rfl).1 rfl rfl (by decide) g_4 g_5 dX11_ironLaid_17 (fun c_9 => ?_) (fun c_9 => ?_)
      · have hw := hwt c_9
        refine lv_astore_nN (lv' := [(3, .null), (0, .ref (ad 11 0)), (1, .int (iv x1)), (2, .int (iv x2))]) X.1 X.2.1 dX11_ironLaid_18 rfl hl (by decide) rfl (fun ls hl => ?_)
        refine lv_iload_n X.1 X.2.1 dX11_ironLaid_19 rfl (lv_at hl 2 rfl) ?_
        refine lv_aload_nN X.1 X.2.1 dX11_ironLaid_20 rfl (lv_at hl 0 rfl) ?_
        refine lv_ifnullN (tgt := 36) X.1 X.2.1 dX11_ironLaid_21 (by decide) ?_
        exact lb_X11_ironLaid_36 X ih σ x2 x1 _ _ _ hw h (lv_sub hl [1, 3] rfl)
      · have hw := hwf c_9 (h.2.2.2.2.2.2.1 _ c_9)
        refine lv_astore_n (lv' := [(3, .ref (ad 10 (Int.toNat x2))), (0, .ref (ad 11 0)), (1, .int (iv x1)), (2, .int (iv x2))]) X.1 X.2.1 dX11_ironLaid_18 rfl hl (by decide) rfl (fun ls hl => ?_)
        refine lv_iload_n X.1 X.2.1 dX11_ironLaid_19 rfl (lv_at hl 2 rfl) ?_
        refine lv_aload_n X.1 X.2.1 dX11_ironLaid_20 rfl (lv_at hl 0 rfl) ?_
        refine lv_ifnull X.1 X.2.1 dX11_ironLaid_21 ?_
        refine lv_aload_n X.1 X.2.1 dX11_ironLaid_24 rfl (lv_at hl 0 rfl) ?_
        obtain ⟨g_6, hw⟩ := hw
        refine r_getN (ci := 10) X inw_10 h (h.2.2.2.1 (Int.toNat x2) g_6) rfl rfl 3 (by decide) kw_825 rfl dX11_ironLaid_25 ?_
        obtain ⟨g_7, hwt, hwf⟩ := hw
        refine j_if_eq (tgt := 36) X g_7 dX11_ironLaid_28 (by decide) (fun c_8 => ?_) (fun c_8 => ?_)
        · have hw := hwt c_8
          exact lb_X11_ironLaid_36 X ih σ x2 x1 _ _ _ hw h (lv_sub hl [1, 3] rfl)
        · have hw := hwf c_8
          refine j_bipush X dX11_ironLaid_31 (by decide) ?_
          refine lv_goto (tgt := 37) X.1 X.2.1 dX11_ironLaid_33 (by decide) ?_
          exact lb_X11_ironLaid_37 X ih σ x2 10 x1 _ _ _ hw h (lv_sub hl [1, 3] rfl)
theorem pd_X11_ironLaid : yX11_ironLaid.cls ≠ "java/lang/invoke/MethodHandle" ∧ yX11_ironLaid.cls ≠ "java/lang/invoke/VarHandle" ∧ (parseMethodDescriptor yX11_ironLaid.desc).map (fun d => d.parameters.length) = some 0 := by decide +kernel
set_option maxRecDepth 100000 in
set_option maxHeartbeats 4000000 in
theorem c_X11_ironLaid (l : Launch) (D : va_G) (ct : Nat → ClassId) (ad : Nat → Nat → Nat) (L : List (Nat × Nat)) (φ : Nat → Nat → Nat → Bool) (N0 : Nat) (σ : St) (Q : Int → St → Prop) (hw : wp_X11_ironLaid σ Q) : Met l yX11_ironLaid (.code yX11_ironLaid cX11_ironLaid 4 (some .int) :: gw) ({ frames := 0, cells := 0, slots := 0, locals := 0 } : Room) (Pm D ct ad L φ N0 σ [.ref (ad 11 0)]) (Qi D ct ad L φ N0 Q) 0 0 (AA N0) := by
  refine m_of (by decide) (fun p e s m below meth c X hnm h => ?_)
  have hF := X.2.2.2.2.2.2.2.2.1
  have hl := lv_entry ([.ref (ad 11 0)]) (n := 4) (Nat.le_of_ble_eq_true rfl)
  rw [lg_entry_eq]
  generalize (lg_sl ([.ref (ad 11 0)]) ++ List.replicate (4 - (lg_sl ([.ref (ad 11 0)])).length) Slot.unset).toArray = ls at hl ⊢
  have hl : lv_has ls 4 [(0, .ref (ad 11 0))] := hl
  have h : Hs D ct ad L φ N0 s.heap σ s.heap [] := h
  unfold wp_X11_ironLaid at hw
  refine j_iconst X dX11_ironLaid_0 ?_
  refine lv_istore_n (lv' := [(1, .int (iv 0)), (0, .ref (ad 11 0))]) X.1 X.2.1 dX11_ironLaid_1 rfl hl (by decide) rfl (fun ls hl => ?_)
  refine j_iconst X dX11_ironLaid_2 ?_
  refine lv_istore_n (lv' := [(2, .int (iv 0)), (1, .int (iv 0)), (0, .ref (ad 11 0))]) X.1 X.2.1 dX11_ironLaid_3 rfl hl (by decide) rfl (fun ls hl => ?_)
  exact hw.elim (fun n4 hw => lb_X11_ironLaid_4 X n4 σ 0 0 _ _ _ hw h (lv_sub hl [2, 1, 0] rfl))
end
section
variable {p : Program} {l : Launch} {e : Env} {s : State} {m : MethodId} {args : Array Value} {below : List Frame} {meth : Method} {c : Code} {D : va_G} {ct : Nat → ClassId} {ad : Nat → Nat → Nat} {L : List (Nat × Nat)} {φ : Nat → Nat → Nat → Bool} {N0 : Nat}
variable {Q : Int → St → Prop}
theorem pd_X11_dam : yX11_dam.cls ≠ "java/lang/invoke/MethodHandle" ∧ yX11_dam.cls ≠ "java/lang/invoke/VarHandle" ∧ (parseMethodDescriptor yX11_dam.desc).map (fun d => d.parameters.length) = some 1 := by decide +kernel
set_option maxRecDepth 100000 in
set_option maxHeartbeats 4000000 in
theorem c_X11_dam (l : Launch) (D : va_G) (ct : Nat → ClassId) (ad : Nat → Nat → Nat) (L : List (Nat × Nat)) (φ : Nat → Nat → Nat → Bool) (N0 : Nat) (σ : St) (x1 : Int) (Q : Int → St → Prop) (hw : wp_X11_dam σ x1 Q) : Met l yX11_dam (.code yX11_dam cX11_dam 3 (some .boolean) :: gw) ({ frames := 2, cells := 0, slots := 0, locals := 43 } : Room) (Pm D ct ad L φ N0 σ [.ref (ad 11 0), .int (iv x1)]) (Qi D ct ad L φ N0 Q) 0 0 (AA N0) := by
  refine m_of (by decide) (fun p e s m below meth c X hnm h => ?_)
  have hF := X.2.2.2.2.2.2.2.2.1
  have hl := lv_entry ([.ref (ad 11 0), .int (iv x1)]) (n := 3) (Nat.le_of_ble_eq_true rfl)
  rw [lg_entry_eq]
  generalize (lg_sl ([.ref (ad 11 0), .int (iv x1)]) ++ List.replicate (3 - (lg_sl ([.ref (ad 11 0), .int (iv x1)])).length) Slot.unset).toArray = ls at hl ⊢
  have hl : lv_has ls 3 [(0, .ref (ad 11 0)), (1, .int (iv x1))] := hl
  have h : Hs D ct ad L φ N0 s.heap σ s.heap [] := h
  unfold wp_X11_dam at hw
  refine lv_aload_n X.1 X.2.1 dX11_dam_0 rfl (lv_at hl 0 rfl) ?_
  refine lv_iload_n X.1 X.2.1 dX11_dam_1 rfl (lv_at hl 1 rfl) ?_
  refine k_o h (r_V (C := RX11) (ci := 11) (As := [.int (iv x1)]) (rest := []) X h (c_X11_wayAt l D ct ad L φ N0 σ x1 _ hw) rfl rfl ⟨Nat.le_of_ble_eq_true rfl, Nat.le_of_ble_eq_true rfl⟩ kw_847 kw_849 kw_13 kw_120 kw_850 ⟨rfl, pd_X11_wayAt⟩ (hF.1 11 rfl).1 rfl rfl rfl hl.1 rfl (Nat.le_of_ble_eq_true rfl) ⟨Nat.le_of_ble_eq_true rfl, Nat.le_of_ble_eq_true rfl⟩ dX11_dam_2) (fun o_12 σ_1 H locs hw h => ?_)
  cases o_12 with
  | none =>
    refine lv_astore_nN (lv' := [(2, .null), (0, .ref (ad 11 0)), (1, .int (iv x1))]) X.1 X.2.1 dX11_dam_5 rfl hl (by decide) rfl (fun ls hl => ?_)
    refine lv_aload_nN X.1 X.2.1 dX11_dam_6 rfl (lv_at hl 0 rfl) ?_
    refine lv_ifnullN (tgt := 32) X.1 X.2.1 dX11_dam_7 (by decide) ?_
    refine j_iconst X dX11_dam_32 ?_
    exact k_ir X rfl h hw dX11_dam_33
  | some j_2 =>
    refine lv_astore_n (lv' := [(2, .ref (ad 10 j_2)), (0, .ref (ad 11 0)), (1, .int (iv x1))]) X.1 X.2.1 dX11_dam_5 rfl hl (by decide) rfl (fun ls hl => ?_)
    refine lv_aload_n X.1 X.2.1 dX11_dam_6 rfl (lv_at hl 0 rfl) ?_
    refine lv_ifnull X.1 X.2.1 dX11_dam_7 ?_
    refine lv_aload_n X.1 X.2.1 dX11_dam_10 rfl (lv_at hl 0 rfl) ?_
    obtain ⟨g_3, hw⟩ := hw
    refine r_getN (ci := 10) X inw_10 h (h.2.2.2.1 j_2 g_3) rfl rfl 0 (by decide) kw_819 rfl dX11_dam_11 ?_
    refine j_iconst X dX11_dam_14 ?_
    obtain ⟨g_4, hwt, hwf⟩ := hw
    refine j_cmp_ne (tgt := 32) X g_4 ⟨by decide, by decide⟩ dX11_dam_15 (by decide) (fun c_11 => ?_) (fun c_11 => ?_)
    · have hw := hwt c_11
      refine j_iconst X dX11_dam_32 ?_
      exact k_ir X rfl h hw dX11_dam_33
    · have hw := hwf c_11
      refine lv_aload_n X.1 X.2.1 dX11_dam_18 rfl (lv_at hl 0 rfl) ?_
      obtain ⟨g_5, hw⟩ := hw
      refine r_getN (ci := 10) X inw_10 h (h.2.2.2.1 j_2 g_5) rfl rfl 4 (by decide) kw_827 rfl dX11_dam_19 ?_
      refine lv_aload_n X.1 X.2.1 dX11_dam_22 rfl (lv_at hl 1 rfl) ?_
      refine r_getR (ci := 11) X inw_11 h (hF.1 11 rfl).1 rfl rfl 0 (by decide) kw_458 rfl ((hF.1 11 rfl).2 0) dX11_dam_23 ?_
      refine r_getN (ci := 7) X inw_7 h (hF.1 7 rfl).1 rfl rfl 3 (by decide) kw_164 rfl dX11_dam_26 ?_
      obtain ⟨g_6, g_7, hwt, hwf⟩ := hw
      refine j_cmp_ne (tgt := 34) X g_6 g_7 dX11_dam_29 (by decide) (fun c_10 => ?_) (fun c_10 => ?_)
      · have hw := hwt c_10
        refine lv_aload_n X.1 X.2.1 dX11_dam_34 rfl (lv_at hl 0 rfl) ?_
        refine lv_aload_n X.1 X.2.1 dX11_dam_35 rfl (lv_at hl 1 rfl) ?_
        refine r_getR (ci := 11) X inw_11 h (hF.1 11 rfl).1 rfl rfl 0 (by decide) kw_458 rfl ((hF.1 11 rfl).2 0) dX11_dam_36 ?_
        refine r_getN (ci := 7) X inw_7 h (hF.1 7 rfl).1 rfl rfl 3 (by decide) kw_164 rfl dX11_dam_39 ?_
        obtain ⟨g_8, hw⟩ := hw
        refine r_putN (ci := 10) X inw_10 tyX10 tyX10_ok nmX10 h (h.2.2.2.1 j_2 g_8) rfl rfl 4 (by decide) kw_827 rfl rfl rfl (Nat.le_of_ble_eq_true rfl) rfl rfl dX11_dam_42 (fun H locs h => ?_)
        obtain ⟨σ_9, eσ_9⟩ : ∃ z : St, z = st σ_1 10 j_2 4 (σ_1 7 0 3) := ⟨_, rfl⟩
        rw [← eσ_9] at h
        have hw := hw σ_9 eσ_9
        refine j_iconst X dX11_dam_45 ?_
        exact k_ir X rfl h hw dX11_dam_46
      · have hw := hwf c_10
        refine j_iconst X dX11_dam_32 ?_
        exact k_ir X rfl h hw dX11_dam_33
end
section
variable {p : Program} {l : Launch} {e : Env} {s : State} {m : MethodId} {args : Array Value} {below : List Frame} {meth : Method} {c : Code} {D : va_G} {ct : Nat → ClassId} {ad : Nat → Nat → Nat} {L : List (Nat × Nat)} {φ : Nat → Nat → Nat → Bool} {N0 : Nat}
variable {Q : St → Prop}
theorem pd_X11_askOfWay : yX11_askOfWay.cls ≠ "java/lang/invoke/MethodHandle" ∧ yX11_askOfWay.cls ≠ "java/lang/invoke/VarHandle" ∧ (parseMethodDescriptor yX11_askOfWay.desc).map (fun d => d.parameters.length) = some 1 := by decide +kernel
set_option maxRecDepth 100000 in
set_option maxHeartbeats 4000000 in
theorem c_X11_askOfWay (l : Launch) (D : va_G) (ct : Nat → ClassId) (ad : Nat → Nat → Nat) (L : List (Nat × Nat)) (φ : Nat → Nat → Nat → Bool) (N0 : Nat) (σ : St) (j1 : Nat) (Q : St → Prop) (hw : wp_X11_askOfWay σ j1 Q) : Met l yX11_askOfWay (.code yX11_askOfWay cX11_askOfWay 2 none :: gw) ({ frames := 4, cells := 0, slots := 0, locals := 84 } : Room) (Pm D ct ad L φ N0 σ [.ref (ad 11 0), .ref (ad 10 j1)]) (Qv D ct ad L φ N0 Q) 0 0 (AA N0) := by
  refine m_of (by decide) (fun p e s m below meth c X hnm h => ?_)
  have hF := X.2.2.2.2.2.2.2.2.1
  have hl := lv_entry ([.ref (ad 11 0), .ref (ad 10 j1)]) (n := 2) (Nat.le_of_ble_eq_true rfl)
  rw [lg_entry_eq]
  generalize (lg_sl ([.ref (ad 11 0), .ref (ad 10 j1)]) ++ List.replicate (2 - (lg_sl ([.ref (ad 11 0), .ref (ad 10 j1)])).length) Slot.unset).toArray = ls at hl ⊢
  have hl : lv_has ls 2 [(0, .ref (ad 11 0)), (1, .ref (ad 10 j1))] := hl
  have h : Hs D ct ad L φ N0 s.heap σ s.heap [] := h
  unfold wp_X11_askOfWay at hw
  refine lv_aload_n X.1 X.2.1 dX11_askOfWay_0 rfl (lv_at hl 0 rfl) ?_
  refine r_getR (ci := 11) X inw_11 h (hF.1 11 rfl).1 rfl rfl 9 (by decide) kw_467 rfl ((hF.1 11 rfl).2 9) dX11_askOfWay_1 ?_
  refine lv_aload_n X.1 X.2.1 dX11_askOfWay_4 rfl (lv_at hl 0 rfl) ?_
  refine r_getR (ci := 11) X inw_11 h (hF.1 11 rfl).1 rfl rfl 0 (by decide) kw_458 rfl ((hF.1 11 rfl).2 0) dX11_askOfWay_5 ?_
  refine k_v h (r_V (C := RX8) (ci := 8) (As := [.ref (ad 7 0)]) (rest := []) X h (c_X8_askOfDay l D ct ad L φ N0 σ _ hw) rfl rfl ⟨Nat.le_of_ble_eq_true rfl, Nat.le_of_ble_eq_true rfl⟩ kw_653 kw_654 kw_655 kw_125 kw_656 ⟨rfl, pd_X8_askOfDay⟩ (hF.1 8 rfl).1 rfl rfl rfl hl.1 rfl (Nat.le_of_ble_eq_true rfl) ⟨Nat.le_of_ble_eq_true rfl, Nat.le_of_ble_eq_true rfl⟩ dX11_askOfWay_8) (fun σ_1 H locs hw h => ?_)
  refine lv_aload_n X.1 X.2.1 dX11_askOfWay_11 rfl (lv_at hl 0 rfl) ?_
  refine r_getR (ci := 11) X inw_11 h (hF.1 11 rfl).1 rfl rfl 9 (by decide) kw_467 rfl ((hF.1 11 rfl).2 9) dX11_askOfWay_12 ?_
  refine lv_aload_n X.1 X.2.1 dX11_askOfWay_15 rfl (lv_at hl 0 rfl) ?_
  refine r_getR (ci := 11) X inw_11 h (hF.1 11 rfl).1 rfl rfl 1 (by decide) kw_459 rfl ((hF.1 11 rfl).2 1) dX11_askOfWay_16 ?_
  refine lv_aload_n X.1 X.2.1 dX11_askOfWay_19 rfl (lv_at hl 1 rfl) ?_
  obtain ⟨g_2, hw⟩ := hw
  refine r_getN (ci := 10) X inw_10 h (h.2.2.2.1 j1 g_2) rfl rfl 1 (by decide) kw_821 rfl dX11_askOfWay_20 ?_
  refine k_v h (r_V (C := RX8) (ci := 8) (As := [.ref (ad 3 0), .int (iv (σ_1 10 j1 1))]) (rest := []) X h (c_X8_askOfCell l D ct ad L φ N0 σ_1 (σ_1 10 j1 1) _ hw) rfl rfl ⟨Nat.le_of_ble_eq_true rfl, Nat.le_of_ble_eq_true rfl⟩ kw_665 kw_666 kw_667 kw_125 kw_668 ⟨rfl, pd_X8_askOfCell⟩ (hF.1 8 rfl).1 rfl rfl rfl hl.1 rfl (Nat.le_of_ble_eq_true rfl) ⟨Nat.le_of_ble_eq_true rfl, Nat.le_of_ble_eq_true rfl⟩ dX11_askOfWay_23) (fun σ_3 H locs hw h => ?_)
  refine lv_aload_n X.1 X.2.1 dX11_askOfWay_26 rfl (lv_at hl 0 rfl) ?_
  refine r_getR (ci := 11) X inw_11 h (hF.1 11 rfl).1 rfl rfl 9 (by decide) kw_467 rfl ((hF.1 11 rfl).2 9) dX11_askOfWay_27 ?_
  refine r_getRN (ci := 8) X inw_8 h (hF.1 8 rfl).1 rfl rfl 9 (by decide) kw_291 rfl ((hF.1 8 rfl).2 9) dX11_askOfWay_30 ?_
  refine j_bipush X dX11_askOfWay_33 (by decide) ?_
  refine lv_aload_n X.1 X.2.1 dX11_askOfWay_35 rfl (lv_at hl 1 rfl) ?_
  obtain ⟨g_4, hw⟩ := hw
  refine r_getN (ci := 10) X inw_10 h (h.2.2.2.1 j1 g_4) rfl rfl 0 (by decide) kw_819 rfl dX11_askOfWay_36 ?_
  refine r_iast (n := 13) X h (hF.1 75 rfl).1 (fun _ => rfl) (by decide) (by decide) (by decide) rfl dX11_askOfWay_39 (fun H locs h => ?_)
  obtain ⟨σ_5, eσ_5⟩ : ∃ z : St, z = st σ_3 75 0 (Int.toNat 12) (σ_3 10 j1 0) := ⟨_, rfl⟩
  rw [← eσ_5] at h
  have hw := hw σ_5 eσ_5
  exact k_vr X h hw dX11_askOfWay_40
end
section
variable {p : Program} {l : Launch} {e : Env} {s : State} {m : MethodId} {args : Array Value} {below : List Frame} {meth : Method} {c : Code} {D : va_G} {ct : Nat → ClassId} {ad : Nat → Nat → Nat} {L : List (Nat × Nat)} {φ : Nat → Nat → Nat → Bool} {N0 : Nat}
variable {Q : Int → St → Prop}
theorem pd_X11_carryNow : yX11_carryNow.cls ≠ "java/lang/invoke/MethodHandle" ∧ yX11_carryNow.cls ≠ "java/lang/invoke/VarHandle" ∧ (parseMethodDescriptor yX11_carryNow.desc).map (fun d => d.parameters.length) = some 1 := by decide +kernel
set_option maxRecDepth 100000 in
set_option maxHeartbeats 4000000 in
theorem c_X11_carryNow (l : Launch) (D : va_G) (ct : Nat → ClassId) (ad : Nat → Nat → Nat) (L : List (Nat × Nat)) (φ : Nat → Nat → Nat → Bool) (N0 : Nat) (σ : St) (j1 : Nat) (Q : Int → St → Prop) (hw : wp_X11_carryNow σ j1 Q) : Met l yX11_carryNow (.code yX11_carryNow cX11_carryNow 2 (some .int) :: gw) ({ frames := 5, cells := 0, slots := 0, locals := 105 } : Room) (Pm D ct ad L φ N0 σ [.ref (ad 11 0), .ref (ad 10 j1)]) (Qi D ct ad L φ N0 Q) 0 0 (AA N0) := by
  refine m_of (by decide) (fun p e s m below meth c X hnm h => ?_)
  have hF := X.2.2.2.2.2.2.2.2.1
  have hl := lv_entry ([.ref (ad 11 0), .ref (ad 10 j1)]) (n := 2) (Nat.le_of_ble_eq_true rfl)
  rw [lg_entry_eq]
  generalize (lg_sl ([.ref (ad 11 0), .ref (ad 10 j1)]) ++ List.replicate (2 - (lg_sl ([.ref (ad 11 0), .ref (ad 10 j1)])).length) Slot.unset).toArray = ls at hl ⊢
  have hl : lv_has ls 2 [(0, .ref (ad 11 0)), (1, .ref (ad 10 j1))] := hl
  have h : Hs D ct ad L φ N0 s.heap σ s.heap [] := h
  unfold wp_X11_carryNow at hw
  refine lv_aload_n X.1 X.2.1 dX11_carryNow_0 rfl (lv_at hl 0 rfl) ?_
  refine lv_aload_n X.1 X.2.1 dX11_carryNow_1 rfl (lv_at hl 1 rfl) ?_
  refine k_v h (r_V (C := RX11) (ci := 11) (As := [.ref (ad 10 j1)]) (rest := []) X h (c_X11_askOfWay l D ct ad L φ N0 σ j1 _ hw) rfl rfl ⟨Nat.le_of_ble_eq_true rfl, Nat.le_of_ble_eq_true rfl⟩ kw_863 kw_865 kw_15 kw_120 kw_866 ⟨rfl, pd_X11_askOfWay⟩ (hF.1 11 rfl).1 rfl rfl rfl hl.1 rfl (Nat.le_of_ble_eq_true rfl) ⟨Nat.le_of_ble_eq_true rfl, Nat.le_of_ble_eq_true rfl⟩ dX11_carryNow_2) (fun σ_1 H locs hw h => ?_)
  refine lv_aload_n X.1 X.2.1 dX11_carryNow_5 rfl (lv_at hl 0 rfl) ?_
  refine r_getR (ci := 11) X inw_11 h (hF.1 11 rfl).1 rfl rfl 9 (by decide) kw_467 rfl ((hF.1 11 rfl).2 9) dX11_carryNow_6 ?_
  refine lv_aload_n X.1 X.2.1 dX11_carryNow_9 rfl (lv_at hl 0 rfl) ?_
  refine r_getR (ci := 11) X inw_11 h (hF.1 11 rfl).1 rfl rfl 0 (by decide) kw_458 rfl ((hF.1 11 rfl).2 0) dX11_carryNow_10 ?_
  refine r_getN (ci := 7) X inw_7 h (hF.1 7 rfl).1 rfl rfl 3 (by decide) kw_164 rfl dX11_carryNow_13 ?_
  refine j_iconst X dX11_carryNow_16 ?_
  refine k_i h (r_V (C := RX8) (ci := 8) (As := [.int (iv (σ_1 7 0 3)), .int (iv 1)]) (rest := []) X h (c_X8_barring l D ct ad L φ N0 σ_1 (σ_1 7 0 3) 1 _ hw) rfl rfl ⟨Nat.le_of_ble_eq_true rfl, Nat.le_of_ble_eq_true rfl⟩ kw_670 kw_671 kw_672 kw_125 kw_673 ⟨rfl, pd_X8_barring⟩ (hF.1 8 rfl).1 rfl rfl rfl hl.1 rfl (Nat.le_of_ble_eq_true rfl) ⟨Nat.le_of_ble_eq_true rfl, Nat.le_of_ble_eq_true rfl⟩ dX11_carryNow_17) (fun r_3 σ_2 H locs hw h => ?_)
  refine j_iconst X dX11_carryNow_20 ?_
  obtain ⟨g_4, hwt, hwf⟩ := hw
  refine j_cmp_eq (tgt := 26) X g_4 ⟨by decide, by decide⟩ dX11_carryNow_21 (by decide) (fun c_8 => ?_) (fun c_8 => ?_)
  · have hw := hwt c_8
    refine lv_aload_n X.1 X.2.1 dX11_carryNow_26 rfl (lv_at hl 1 rfl) ?_
    refine lv_aload_n X.1 X.2.1 dX11_carryNow_27 rfl (lv_at hl 0 rfl) ?_
    refine r_getR (ci := 11) X inw_11 h (hF.1 11 rfl).1 rfl rfl 1 (by decide) kw_459 rfl ((hF.1 11 rfl).2 1) dX11_carryNow_28 ?_
    refine lv_aload_n X.1 X.2.1 dX11_carryNow_31 rfl (lv_at hl 0 rfl) ?_
    refine r_getR (ci := 11) X inw_11 h (hF.1 11 rfl).1 rfl rfl 0 (by decide) kw_458 rfl ((hF.1 11 rfl).2 0) dX11_carryNow_32 ?_
    obtain ⟨g_5, hw⟩ := hw
    refine k_i h (r_V (C := RX10) (ci := 10) (As := [.ref (ad 3 0), .ref (ad 7 0)]) (rest := []) X h (c_X10_bears l D ct ad L φ N0 σ_2 j1 _ hw) rfl rfl ⟨Nat.le_of_ble_eq_true rfl, Nat.le_of_ble_eq_true rfl⟩ kw_867 kw_868 kw_869 kw_132 kw_870 ⟨rfl, pd_X10_bears⟩ (h.2.2.2.1 j1 g_5) rfl rfl rfl hl.1 rfl (Nat.le_of_ble_eq_true rfl) ⟨Nat.le_of_ble_eq_true rfl, Nat.le_of_ble_eq_true rfl⟩ dX11_carryNow_35) (fun r_7 σ_6 H locs hw h => ?_)
    exact k_ir X rfl h hw dX11_carryNow_38
  · have hw := hwf c_8
    refine j_iconst X dX11_carryNow_24 ?_
    exact k_ir X rfl h hw dX11_carryNow_25
end
section
variable {p : Program} {l : Launch} {e : Env} {s : State} {m : MethodId} {args : Array Value} {below : List Frame} {meth : Method} {c : Code} {D : va_G} {ct : Nat → ClassId} {ad : Nat → Nat → Nat} {L : List (Nat × Nat)} {φ : Nat → Nat → Nat → Bool} {N0 : Nat}
variable {Q : Int → St → Prop}
theorem pd_X11_carry : yX11_carry.cls ≠ "java/lang/invoke/MethodHandle" ∧ yX11_carry.cls ≠ "java/lang/invoke/VarHandle" ∧ (parseMethodDescriptor yX11_carry.desc).map (fun d => d.parameters.length) = some 1 := by decide +kernel
set_option maxRecDepth 100000 in
set_option maxHeartbeats 4000000 in
theorem c_X11_carry (l : Launch) (D : va_G) (ct : Nat → ClassId) (ad : Nat → Nat → Nat) (L : List (Nat × Nat)) (φ : Nat → Nat → Nat → Bool) (N0 : Nat) (σ : St) (x1 : Int) (Q : Int → St → Prop) (hw : wp_X11_carry σ x1 Q) : Met l yX11_carry (.code yX11_carry cX11_carry 3 (some .int) :: gw) ({ frames := 6, cells := 0, slots := 0, locals := 126 } : Room) (Pm D ct ad L φ N0 σ [.ref (ad 11 0), .int (iv x1)]) (Qi D ct ad L φ N0 Q) 0 0 (AA N0) := by
  refine m_of (by decide) (fun p e s m below meth c X hnm h => ?_)
  have hF := X.2.2.2.2.2.2.2.2.1
  have hl := lv_entry ([.ref (ad 11 0), .int (iv x1)]) (n := 3) (Nat.le_of_ble_eq_true rfl)
  rw [lg_entry_eq]
  generalize (lg_sl ([.ref (ad 11 0), .int (iv x1)]) ++ List.replicate (3 - (lg_sl ([.ref (ad 11 0), .int (iv x1)])).length) Slot.unset).toArray = ls at hl ⊢
  have hl : lv_has ls 3 [(0, .ref (ad 11 0)), (1, .int (iv x1))] := hl
  have h : Hs D ct ad L φ N0 s.heap σ s.heap [] := h
  unfold wp_X11_carry at hw
  refine lv_aload_n X.1 X.2.1 dX11_carry_0 rfl (lv_at hl 0 rfl) ?_
  refine lv_iload_n X.1 X.2.1 dX11_carry_1 rfl (lv_at hl 1 rfl) ?_
  refine k_o h (r_V (C := RX11) (ci := 11) (As := [.int (iv x1)]) (rest := []) X h (c_X11_wayAt l D ct ad L φ N0 σ x1 _ hw) rfl rfl ⟨Nat.le_of_ble_eq_true rfl, Nat.le_of_ble_eq_true rfl⟩ kw_847 kw_849 kw_13 kw_120 kw_850 ⟨rfl, pd_X11_wayAt⟩ (hF.1 11 rfl).1 rfl rfl rfl hl.1 rfl (Nat.le_of_ble_eq_true rfl) ⟨Nat.le_of_ble_eq_true rfl, Nat.le_of_ble_eq_true rfl⟩ dX11_carry_2) (fun o_5 σ_1 H locs hw h => ?_)
  cases o_5 with
  | none =>
    refine lv_astore_nN (lv' := [(2, .null), (0, .ref (ad 11 0)), (1, .int (iv x1))]) X.1 X.2.1 dX11_carry_5 rfl hl (by decide) rfl (fun ls hl => ?_)
    refine lv_aload_nN X.1 X.2.1 dX11_carry_6 rfl (lv_at hl 0 rfl) ?_
    refine lv_ifnonnullN X.1 X.2.1 dX11_carry_7 ?_
    refine j_iconst X dX11_carry_10 ?_
    refine lv_goto (tgt := 19) X.1 X.2.1 dX11_carry_11 (by decide) ?_
    exact k_ir X rfl h hw dX11_carry_19
  | some j_2 =>
    refine lv_astore_n (lv' := [(2, .ref (ad 10 j_2)), (0, .ref (ad 11 0)), (1, .int (iv x1))]) X.1 X.2.1 dX11_carry_5 rfl hl (by decide) rfl (fun ls hl => ?_)
    refine lv_aload_n X.1 X.2.1 dX11_carry_6 rfl (lv_at hl 0 rfl) ?_
    refine lv_ifnonnull (tgt := 14) X.1 X.2.1 dX11_carry_7 (by decide) ?_
    refine lv_aload_n X.1 X.2.1 dX11_carry_14 rfl (lv_at hl 1 rfl) ?_
    refine lv_aload_n X.1 X.2.1 dX11_carry_15 rfl (lv_at hl 0 rfl) ?_
    refine k_i h (r_V (C := RX11) (ci := 11) (As := [.ref (ad 10 j_2)]) (rest := []) X h (c_X11_carryNow l D ct ad L φ N0 σ_1 j_2 _ hw) rfl rfl ⟨Nat.le_of_ble_eq_true rfl, Nat.le_of_ble_eq_true rfl⟩ kw_859 kw_861 kw_14 kw_120 kw_862 ⟨rfl, pd_X11_carryNow⟩ (hF.1 11 rfl).1 rfl rfl rfl hl.1 rfl (Nat.le_of_ble_eq_true rfl) ⟨Nat.le_of_ble_eq_true rfl, Nat.le_of_ble_eq_true rfl⟩ dX11_carry_16) (fun r_4 σ_3 H locs hw h => ?_)
    exact k_ir X rfl h hw dX11_carry_19
end
section
variable {p : Program} {l : Launch} {e : Env} {s : State} {m : MethodId} {args : Array Value} {below : List Frame} {meth : Method} {c : Code} {D : va_G} {ct : Nat → ClassId} {ad : Nat → Nat → Nat} {L : List (Nat × Nat)} {φ : Nat → Nat → Nat → Bool} {N0 : Nat}
variable {Q : St → Prop}
theorem pd_X11_moveLog : yX11_moveLog.cls ≠ "java/lang/invoke/MethodHandle" ∧ yX11_moveLog.cls ≠ "java/lang/invoke/VarHandle" ∧ (parseMethodDescriptor yX11_moveLog.desc).map (fun d => d.parameters.length) = some 2 := by decide +kernel
set_option maxRecDepth 100000 in
set_option maxHeartbeats 4000000 in
theorem c_X11_moveLog (l : Launch) (D : va_G) (ct : Nat → ClassId) (ad : Nat → Nat → Nat) (L : List (Nat × Nat)) (φ : Nat → Nat → Nat → Bool) (N0 : Nat) (σ : St) (j1 : Nat) (j2 : Nat) (Q : St → Prop) (hw : wp_X11_moveLog σ j1 j2 Q) : Met l yX11_moveLog (.code yX11_moveLog cX11_moveLog 3 none :: gw) ({ frames := 4, cells := 0, slots := 0, locals := 86 } : Room) (Pm D ct ad L φ N0 σ [.ref (ad 11 0), .ref (ad 4 j1), .ref (ad 10 j2)]) (Qv D ct ad L φ N0 Q) 0 0 (AA N0) := by
  refine m_of (by decide) (fun p e s m below meth c X hnm h => ?_)
  have hF := X.2.2.2.2.2.2.2.2.1
  have hl := lv_entry ([.ref (ad 11 0), .ref (ad 4 j1), .ref (ad 10 j2)]) (n := 3) (Nat.le_of_ble_eq_true rfl)
  rw [lg_entry_eq]
  generalize (lg_sl ([.ref (ad 11 0), .ref (ad 4 j1), .ref (ad 10 j2)]) ++ List.replicate (3 - (lg_sl ([.ref (ad 11 0), .ref (ad 4 j1), .ref (ad 10 j2)])).length) Slot.unset).toArray = ls at hl ⊢
  have hl : lv_has ls 3 [(0, .ref (ad 11 0)), (1, .ref (ad 4 j1)), (2, .ref (ad 10 j2))] := hl
  have h : Hs D ct ad L φ N0 s.heap σ s.heap [] := h
  unfold wp_X11_moveLog at hw
  refine lv_aload_n X.1 X.2.1 dX11_moveLog_0 rfl (lv_at hl 0 rfl) ?_
  refine r_getR (ci := 11) X inw_11 h (hF.1 11 rfl).1 rfl rfl 1 (by decide) kw_459 rfl ((hF.1 11 rfl).2 1) dX11_moveLog_1 ?_
  refine r_getRN (ci := 3) X inw_3 h (hF.1 3 rfl).1 rfl rfl 3 (by decide) kw_195 rfl ((hF.1 3 rfl).2 3) dX11_moveLog_4 ?_
  refine lv_aload_n X.1 X.2.1 dX11_moveLog_7 rfl (lv_at hl 1 rfl) ?_
  obtain ⟨g_1, hw⟩ := hw
  refine r_getN (ci := 4) X inw_4 h (h.2.2.1 j1 g_1).1 rfl rfl 5 (by decide) kw_716 rfl dX11_moveLog_8 ?_
  refine lv_dup2_11 X.1 X.2.1 dX11_moveLog_11 rfl rfl ?_
  obtain ⟨g_2, g_3, hw⟩ := hw
  refine r_iald (n := 64) X h (hF.1 31 rfl).1 rfl (by decide) g_2 g_3 dX11_moveLog_12 ?_
  refine j_iconst X dX11_moveLog_13 ?_
  refine j_isub X dX11_moveLog_14 ?_
  obtain ⟨g_4, g_5, hw⟩ := hw
  refine r_iast (n := 64) X h (hF.1 31 rfl).1 (fun _ => rfl) (by decide) g_4 g_5 rfl dX11_moveLog_15 (fun H locs h => ?_)
  obtain ⟨σ_6, eσ_6⟩ : ∃ z : St, z = st σ 31 0 (Int.toNat (σ 4 j1 5)) ((σ 31 0 (Int.toNat (σ 4 j1 5))) - 1) := ⟨_, rfl⟩
  rw [← eσ_6] at h
  have hw := hw σ_6 eσ_6
  refine lv_aload_n X.1 X.2.1 dX11_moveLog_16 rfl (lv_at hl 0 rfl) ?_
  refine r_getR (ci := 11) X inw_11 h (hF.1 11 rfl).1 rfl rfl 1 (by decide) kw_459 rfl ((hF.1 11 rfl).2 1) dX11_moveLog_17 ?_
  refine r_getRN (ci := 3) X inw_3 h (hF.1 3 rfl).1 rfl rfl 3 (by decide) kw_195 rfl ((hF.1 3 rfl).2 3) dX11_moveLog_20 ?_
  refine lv_aload_n X.1 X.2.1 dX11_moveLog_23 rfl (lv_at hl 2 rfl) ?_
  obtain ⟨g_7, hw⟩ := hw
  refine r_getN (ci := 10) X inw_10 h (h.2.2.2.1 j2 g_7) rfl rfl 2 (by decide) kw_823 rfl dX11_moveLog_24 ?_
  refine lv_dup2_11 X.1 X.2.1 dX11_moveLog_27 rfl rfl ?_
  obtain ⟨g_8, g_9, hw⟩ := hw
  refine r_iald (n := 64) X h (hF.1 31 rfl).1 rfl (by decide) g_8 g_9 dX11_moveLog_28 ?_
  refine j_iconst X dX11_moveLog_29 ?_
  refine j_iadd X dX11_moveLog_30 ?_
  obtain ⟨g_10, g_11, hw⟩ := hw
  refine r_iast (n := 64) X h (hF.1 31 rfl).1 (fun _ => rfl) (by decide) g_10 g_11 rfl dX11_moveLog_31 (fun H locs h => ?_)
  obtain ⟨σ_12, eσ_12⟩ : ∃ z : St, z = st σ_6 31 0 (Int.toNat (σ_6 10 j2 2)) ((σ_6 31 0 (Int.toNat (σ_6 10 j2 2))) + 1) := ⟨_, rfl⟩
  rw [← eσ_12] at h
  have hw := hw σ_12 eσ_12
  refine lv_aload_n X.1 X.2.1 dX11_moveLog_32 rfl (lv_at hl 1 rfl) ?_
  refine lv_aload_n X.1 X.2.1 dX11_moveLog_33 rfl (lv_at hl 2 rfl) ?_
  obtain ⟨g_13, hw⟩ := hw
  refine r_getN (ci := 10) X inw_10 h (h.2.2.2.1 j2 g_13) rfl rfl 2 (by decide) kw_823 rfl dX11_moveLog_34 ?_
  obtain ⟨g_14, hw⟩ := hw
  refine r_putN (ci := 4) X inw_4 tyX4 tyX4_ok nmX4 h (h.2.2.1 j1 g_14).1 rfl rfl 5 (by decide) kw_716 rfl rfl rfl (Nat.le_of_ble_eq_true rfl) rfl rfl dX11_moveLog_37 (fun H locs h => ?_)
  obtain ⟨σ_15, eσ_15⟩ : ∃ z : St, z = st σ_12 4 j1 5 (σ_12 10 j2 2) := ⟨_, rfl⟩
  rw [← eσ_15] at h
  have hw := hw σ_15 eσ_15
  refine lv_aload_n X.1 X.2.1 dX11_moveLog_40 rfl (lv_at hl 1 rfl) ?_
  refine lv_aload_n X.1 X.2.1 dX11_moveLog_41 rfl (lv_at hl 0 rfl) ?_
  refine r_getR (ci := 11) X inw_11 h (hF.1 11 rfl).1 rfl rfl 0 (by decide) kw_458 rfl ((hF.1 11 rfl).2 0) dX11_moveLog_42 ?_
  refine r_getN (ci := 7) X inw_7 h (hF.1 7 rfl).1 rfl rfl 3 (by decide) kw_164 rfl dX11_moveLog_45 ?_
  obtain ⟨g_16, hw⟩ := hw
  refine r_putN (ci := 4) X inw_4 tyX4 tyX4_ok nmX4 h (h.2.2.1 j1 g_16).1 rfl rfl 7 (by decide) kw_719 rfl rfl rfl (Nat.le_of_ble_eq_true rfl) rfl rfl dX11_moveLog_48 (fun H locs h => ?_)
  obtain ⟨σ_17, eσ_17⟩ : ∃ z : St, z = st σ_15 4 j1 7 (σ_15 7 0 3) := ⟨_, rfl⟩
  rw [← eσ_17] at h
  have hw := hw σ_17 eσ_17
  refine lv_aload_n X.1 X.2.1 dX11_moveLog_51 rfl (lv_at hl 2 rfl) ?_
  obtain ⟨g_18, hw⟩ := hw
  refine r_getN (ci := 10) X inw_10 h (h.2.2.2.1 j2 g_18) rfl rfl 0 (by decide) kw_819 rfl dX11_moveLog_52 ?_
  refine j_iconst X dX11_moveLog_55 ?_
  obtain ⟨g_19, hwt, hwf⟩ := hw
  refine j_cmp_ne (tgt := 87) X g_19 ⟨by decide, by decide⟩ dX11_moveLog_56 (by decide) (fun c_28 => ?_) (fun c_28 => ?_)
  · have hw := hwt c_28
    exact k_vr X h hw dX11_moveLog_87
  · have hw := hwf c_28
    refine lv_aload_n X.1 X.2.1 dX11_moveLog_59 rfl (lv_at hl 0 rfl) ?_
    refine r_getR (ci := 11) X inw_11 h (hF.1 11 rfl).1 rfl rfl 0 (by decide) kw_458 rfl ((hF.1 11 rfl).2 0) dX11_moveLog_60 ?_
    refine j_iconst X dX11_moveLog_63 ?_
    refine k_i h (r_V (C := RX7) (ci := 7) (As := [.int (iv 1)]) (rest := []) X h (c_X7_now l D ct ad L φ N0 σ_17 1 _ hw) rfl rfl ⟨Nat.le_of_ble_eq_true rfl, Nat.le_of_ble_eq_true rfl⟩ kw_899 kw_662 kw_663 kw_121 kw_664 ⟨rfl, pd_X7_now⟩ (hF.1 7 rfl).1 rfl rfl rfl hl.1 rfl (Nat.le_of_ble_eq_true rfl) ⟨Nat.le_of_ble_eq_true rfl, Nat.le_of_ble_eq_true rfl⟩ dX11_moveLog_64) (fun r_21 σ_20 H locs hw h => ?_)
    refine j_bipush X dX11_moveLog_67 (by decide) ?_
    obtain ⟨g_22, hwt, hwf⟩ := hw
    refine j_cmp_ne (tgt := 87) X g_22 ⟨by decide, by decide⟩ dX11_moveLog_69 (by decide) (fun c_27 => ?_) (fun c_27 => ?_)
    · have hw := hwt c_27
      exact k_vr X h hw dX11_moveLog_87
    · have hw := hwf c_27
      refine lv_aload_n X.1 X.2.1 dX11_moveLog_72 rfl (lv_at hl 1 rfl) ?_
      obtain ⟨g_23, hw⟩ := hw
      refine r_getN (ci := 4) X inw_4 h (h.2.2.1 j1 g_23).1 rfl rfl 2 (by decide) kw_711 rfl dX11_moveLog_73 ?_
      refine j_bipush X dX11_moveLog_76 (by decide) ?_
      obtain ⟨g_24, hwt, hwf⟩ := hw
      refine j_cmp_le (tgt := 87) X g_24 ⟨by decide, by decide⟩ dX11_moveLog_78 (by decide) (fun c_26 => ?_) (fun c_26 => ?_)
      · have hw := hwt c_26
        exact k_vr X h hw dX11_moveLog_87
      · have hw := hwf c_26
        refine lv_aload_n X.1 X.2.1 dX11_moveLog_81 rfl (lv_at hl 0 rfl) ?_
        refine lv_aload_n X.1 X.2.1 dX11_moveLog_82 rfl (lv_at hl 1 rfl) ?_
        refine j_iconst X dX11_moveLog_83 ?_
        refine k_v h (r_V (C := RX11) (ci := 11) (As := [.ref (ad 4 j1), .int (iv 4)]) (rest := []) X h (c_X11_become l D ct ad L φ N0 σ_20 j1 4 _ hw) rfl rfl ⟨Nat.le_of_ble_eq_true rfl, Nat.le_of_ble_eq_true rfl⟩ kw_772 kw_774 kw_11 kw_120 kw_775 ⟨rfl, pd_X11_become⟩ (hF.1 11 rfl).1 rfl rfl rfl hl.1 rfl (Nat.le_of_ble_eq_true rfl) ⟨Nat.le_of_ble_eq_true rfl, Nat.le_of_ble_eq_true rfl⟩ dX11_moveLog_84) (fun σ_25 H locs hw h => ?_)
        exact k_vr X h hw dX11_moveLog_87
end
section
variable {p : Program} {l : Launch} {e : Env} {s : State} {m : MethodId} {args : Array Value} {below : List Frame} {meth : Method} {c : Code} {D : va_G} {ct : Nat → ClassId} {ad : Nat → Nat → Nat} {L : List (Nat × Nat)} {φ : Nat → Nat → Nat → Bool} {N0 : Nat}
variable {Q : Int → St → Prop}
set_option maxRecDepth 100000 in
set_option maxHeartbeats 4000000 in
theorem lb_X11_carryOver_84 (X : Cx p s m meth c args cX11_carryOver 6 (some .int) RX11 D ct L φ N0) {K11 : St → Nat → Int → Int → Int → Prop} (hK11 : ∀ (σ : St) (j1 : Nat) (x2 : Int) (x3 : Int) (x4 : Int) (H : Heap) (locs : List Loc) (ls : Array Slot), K11 σ j1 x2 x3 x4 → Hs D ct ad L φ N0 s.heap σ H locs → lv_has ls 6 [(0, .ref (ad 11 0)), (1, .ref (ad 10 j1)), (2, .int (iv x2)), (3, .int (iv x3)), (4, .int (iv x4))] → W p l e ({ frames := 6, cells := 0, slots := 0, locals := 126 } : Room) s m args below meth c H locs 0 0 (MQ below (Qi D ct ad L φ N0 Q) args s 0 0 (AA N0)) (F0 m 11 ls [])) (σ : St) (j1 : Nat) (x2 : Int) (x3 : Int) (x4 : Int) (H : Heap) (locs : List Loc) (ls : Array Slot) (hw : wp_X11_carryOver_84 K11 Q σ j1 x2 x3 x4) (h : Hs D ct ad L φ N0 s.heap σ H locs) (hl : lv_has ls 6 [(0, .ref (ad 11 0)), (1, .ref (ad 10 j1)), (2, .int (iv x2)), (3, .int (iv x3)), (4, .int (iv x4))]) : W p l e ({ frames := 6, cells := 0, slots := 0, locals := 126 } : Room) s m args below meth c H locs 0 0 (MQ below (Qi D ct ad L φ N0 Q) args s 0 0 (AA N0)) (F0 m 84 ls []) := by
  have hF := X.2.2.2.2.2.2.2.2.1
  unfold wp_X11_carryOver_84 at hw
  refine j_iinc (kk9 := 4) (lv' := [(4, .int (iv (x4 + 1))), (0, .ref (ad 11 0)), (1, .ref (ad 10 j1)), (2, .int (iv x2)), (3, .int (iv x3))]) X dX11_carryOver_84 hl rfl (by decide) rfl (fun ls hl => ?_)
  refine lv_goto (tgt := 11) X.1 X.2.1 dX11_carryOver_87 (by decide) ?_
  exact hK11 σ j1 x2 x3 (x4 + 1) _ _ _ hw h (lv_sub hl [1, 2, 3, 4, 0] rfl)
set_option maxRecDepth 100000 in
set_option maxHeartbeats 4000000 in
theorem lb_X11_carryOver_11 (X : Cx p s m meth c args cX11_carryOver 6 (some .int) RX11 D ct L φ N0) : ∀ (n : Nat) (σ : St) (j1 : Nat) (x2 : Int) (x3 : Int) (x4 : Int) (H : Heap) (locs : List Loc) (ls : Array Slot), wp_X11_carryOver_11 Q n σ j1 x2 x3 x4 → Hs D ct ad L φ N0 s.heap σ H locs → lv_has ls 6 [(0, .ref (ad 11 0)), (1, .ref (ad 10 j1)), (2, .int (iv x2)), (3, .int (iv x3)), (4, .int (iv x4))] → W p l e ({ frames := 6, cells := 0, slots := 0, locals := 126 } : Room) s m args below meth c H locs 0 0 (MQ below (Qi D ct ad L φ N0 Q) args s 0 0 (AA N0)) (F0 m 11 ls []) := by
  have hF := X.2.2.2.2.2.2.2.2.1
  intro n
  induction n with
  | zero => intro σ j1 x2 x3 x4 H locs ls hw; exact hw.elim
  | succ n ih =>
    intro σ j1 x2 x3 x4 H locs ls hw h hl
    unfold wp_X11_carryOver_11 at hw
    refine lv_iload X.1 X.2.1 dX11_carryOver_11 (lv_at hl 4 rfl) ?_
    refine lv_aload_n X.1 X.2.1 dX11_carryOver_13 rfl (lv_at hl 0 rfl) ?_
    refine r_get (ci := 11) X inw_11 h (hF.1 11 rfl).1 rfl rfl 4 (by decide) kw_462 rfl dX11_carryOver_14 ?_
    obtain ⟨g_1, g_2, hwt, hwf⟩ := hw
    refine j_cmp_ge (tgt := 90) X g_1 g_2 dX11_carryOver_17 (by decide) (fun c_26 => ?_) (fun c_26 => ?_)
    · have hw := hwt c_26
      refine lv_iload_n X.1 X.2.1 dX11_carryOver_90 rfl (lv_at hl 3 rfl) ?_
      exact k_ir X rfl h hw dX11_carryOver_91
    · have hw := hwf c_26
      refine lv_iload_n X.1 X.2.1 dX11_carryOver_20 rfl (lv_at hl 2 rfl) ?_
      obtain ⟨g_3, hwt, hwf⟩ := hw
      refine j_if_le (tgt := 90) X g_3 dX11_carryOver_21 (by decide) (fun c_25 => ?_) (fun c_25 => ?_)
      · have hw := hwt c_25
        refine lv_iload_n X.1 X.2.1 dX11_carryOver_90 rfl (lv_at hl 3 rfl) ?_
        exact k_ir X rfl h hw dX11_carryOver_91
      · have hw := hwf c_25
        refine lv_aload_n X.1 X.2.1 dX11_carryOver_24 rfl (lv_at hl 0 rfl) ?_
        refine r_getR (ci := 11) X inw_11 h (hF.1 11 rfl).1 rfl rfl 3 (by decide) kw_461 rfl ((hF.1 11 rfl).2 3) dX11_carryOver_25 ?_
        refine lv_iload X.1 X.2.1 dX11_carryOver_28 (lv_at hl 4 rfl) ?_
        obtain ⟨g_4, g_5, hwt, hwf⟩ := hw
        refine r_aaD (n := 300) (t := 3) X h (hF.1 77 rfl).1 rfl rfl (by decide) g_4 g_5 dX11_carryOver_30 (fun c_23 => ?_) (fun c_23 => ?_)
        · have hw := hwt c_23
          refine lv_astoreN (lv' := [(5, .null), (0, .ref (ad 11 0)), (1, .ref (ad 10 j1)), (2, .int (iv x2)), (3, .int (iv x3)), (4, .int (iv x4))]) X.1 X.2.1 dX11_carryOver_31 hl (by decide) rfl (fun ls hl => ?_)
          refine lv_aloadN X.1 X.2.1 dX11_carryOver_33 (lv_at hl 0 rfl) ?_
          refine lv_ifnullN (tgt := 84) X.1 X.2.1 dX11_carryOver_35 (by decide) ?_
          exact lb_X11_carryOver_84 X ih σ j1 x2 x3 x4 _ _ _ hw h (lv_sub hl [1, 2, 3, 4, 5] rfl)
        · have hw := hwf c_23 (h.2.2.2.2.2.1 _ c_23)
          refine lv_astore (lv' := [(5, .ref (ad 4 (Int.toNat x4))), (0, .ref (ad 11 0)), (1, .ref (ad 10 j1)), (2, .int (iv x2)), (3, .int (iv x3)), (4, .int (iv x4))]) X.1 X.2.1 dX11_carryOver_31 hl (by decide) rfl (fun ls hl => ?_)
          refine lv_aload X.1 X.2.1 dX11_carryOver_33 (lv_at hl 0 rfl) ?_
          refine lv_ifnull X.1 X.2.1 dX11_carryOver_35 ?_
          refine lv_aload X.1 X.2.1 dX11_carryOver_38 (lv_at hl 0 rfl) ?_
          refine lv_aload_n X.1 X.2.1 dX11_carryOver_40 rfl (lv_at hl 2 rfl) ?_
          obtain ⟨g_6, hw⟩ := hw
          refine r_getN (ci := 10) X inw_10 h (h.2.2.2.1 j1 g_6) rfl rfl 1 (by decide) kw_821 rfl dX11_carryOver_41 ?_
          refine lv_aload_n X.1 X.2.1 dX11_carryOver_44 rfl (lv_at hl 1 rfl) ?_
          refine r_getR (ci := 11) X inw_11 h (hF.1 11 rfl).1 rfl rfl 0 (by decide) kw_458 rfl ((hF.1 11 rfl).2 0) dX11_carryOver_45 ?_
          refine r_getN (ci := 7) X inw_7 h (hF.1 7 rfl).1 rfl rfl 3 (by decide) kw_164 rfl dX11_carryOver_48 ?_
          obtain ⟨g_7, hw⟩ := hw
          refine k_i h (r_V (C := RX4) (ci := 4) (As := [.int (iv (σ 10 j1 1)), .int (iv (σ 7 0 3))]) (rest := []) X h (c_X4_waitsIn l D ct ad L φ N0 σ (Int.toNat x4) (σ 10 j1 1) (σ 7 0 3) _ hw) rfl rfl ⟨Nat.le_of_ble_eq_true rfl, Nat.le_of_ble_eq_true rfl⟩ kw_886 kw_887 kw_888 kw_131 kw_889 ⟨rfl, pd_X4_waitsIn⟩ (h.2.2.1 (Int.toNat x4) g_7).1 rfl rfl rfl hl.1 rfl (Nat.le_of_ble_eq_true rfl) ⟨Nat.le_of_ble_eq_true rfl, Nat.le_of_ble_eq_true rfl⟩ dX11_carryOver_51) (fun r_9 σ_8 H locs hw h => ?_)
          obtain ⟨g_10, hwt, hwf⟩ := hw
          refine j_if_eq (tgt := 84) X g_10 dX11_carryOver_54 (by decide) (fun c_22 => ?_) (fun c_22 => ?_)
          · have hw := hwt c_22
            exact lb_X11_carryOver_84 X ih σ_8 j1 x2 x3 x4 _ _ _ hw h (lv_sub hl [1, 2, 3, 4, 5] rfl)
          · have hw := hwf c_22
            refine lv_aload X.1 X.2.1 dX11_carryOver_57 (lv_at hl 0 rfl) ?_
            obtain ⟨g_11, hw⟩ := hw
            refine k_i h (r_V (C := RX4) (ci := 4) (As := []) (rest := []) X h (c_X4_volume l D ct ad L φ N0 σ_8 (Int.toNat x4) _ hw) rfl rfl ⟨Nat.le_of_ble_eq_true rfl, Nat.le_of_ble_eq_true rfl⟩ kw_894 kw_803 kw_804 kw_131 kw_805 ⟨rfl, pd_X4_volume⟩ (h.2.2.1 (Int.toNat x4) g_11).1 rfl rfl rfl hl.1 rfl (Nat.le_of_ble_eq_true rfl) ⟨Nat.le_of_ble_eq_true rfl, Nat.le_of_ble_eq_true rfl⟩ dX11_carryOver_59) (fun r_13 σ_12 H locs hw h => ?_)
            refine lv_iload_n X.1 X.2.1 dX11_carryOver_62 rfl (lv_at hl 3 rfl) ?_
            obtain ⟨g_14, g_15, hwt, hwf⟩ := hw
            refine j_cmp_gt (tgt := 84) X g_14 g_15 dX11_carryOver_63 (by decide) (fun c_21 => ?_) (fun c_21 => ?_)
            · have hw := hwt c_21
              exact lb_X11_carryOver_84 X ih σ_12 j1 x2 x3 x4 _ _ _ hw h (lv_sub hl [1, 2, 3, 4, 5] rfl)
            · have hw := hwf c_21
              refine lv_iload_n X.1 X.2.1 dX11_carryOver_66 rfl (lv_at hl 3 rfl) ?_
              refine lv_aload X.1 X.2.1 dX11_carryOver_67 (lv_at hl 0 rfl) ?_
              obtain ⟨g_16, hw⟩ := hw
              refine k_i h (r_V (C := RX4) (ci := 4) (As := []) (rest := [.int (iv x2)]) X h (c_X4_volume l D ct ad L φ N0 σ_12 (Int.toNat x4) _ hw) rfl rfl ⟨Nat.le_of_ble_eq_true rfl, Nat.le_of_ble_eq_true rfl⟩ kw_894 kw_803 kw_804 kw_131 kw_805 ⟨rfl, pd_X4_volume⟩ (h.2.2.1 (Int.toNat x4) g_16).1 rfl rfl rfl hl.1 rfl (Nat.le_of_ble_eq_true rfl) ⟨Nat.le_of_ble_eq_true rfl, Nat.le_of_ble_eq_true rfl⟩ dX11_carryOver_69) (fun r_18 σ_17 H locs hw h => ?_)
              refine j_isub X dX11_carryOver_72 ?_
              refine j_bind (fun v_19 ev_19 => ?_)
              have hw := hw v_19 ev_19
              refine lv_istore_n (lv' := [(2, .int (iv v_19)), (5, .ref (ad 4 (Int.toNat x4))), (0, .ref (ad 11 0)), (1, .ref (ad 10 j1)), (3, .int (iv x3)), (4, .int (iv x4))]) X.1 X.2.1 dX11_carryOver_73 rfl hl (by decide) rfl (fun ls hl => ?_)
              refine j_iinc (kk9 := 4) (lv' := [(3, .int (iv (x3 + 1))), (2, .int (iv v_19)), (5, .ref (ad 4 (Int.toNat x4))), (0, .ref (ad 11 0)), (1, .ref (ad 10 j1)), (4, .int (iv x4))]) X dX11_carryOver_74 hl rfl (by decide) rfl (fun ls hl => ?_)
              refine lv_aload_n X.1 X.2.1 dX11_carryOver_77 rfl (lv_at hl 3 rfl) ?_
              refine lv_aload X.1 X.2.1 dX11_carryOver_78 (lv_at hl 2 rfl) ?_
              refine lv_aload_n X.1 X.2.1 dX11_carryOver_80 rfl (lv_at hl 4 rfl) ?_
              refine k_v h (r_V (C := RX11) (ci := 11) (As := [.ref (ad 4 (Int.toNat x4)), .ref (ad 10 j1)]) (rest := []) X h (c_X11_moveLog l D ct ad L φ N0 σ_17 (Int.toNat x4) j1 _ hw) rfl rfl ⟨Nat.le_of_ble_eq_true rfl, Nat.le_of_ble_eq_true rfl⟩ kw_895 kw_897 kw_18 kw_120 kw_898 ⟨rfl, pd_X11_moveLog⟩ (hF.1 11 rfl).1 rfl rfl rfl hl.1 rfl (Nat.le_of_ble_eq_true rfl) ⟨Nat.le_of_ble_eq_true rfl, Nat.le_of_ble_eq_true rfl⟩ dX11_carryOver_81) (fun σ_20 H locs hw h => ?_)
              exact lb_X11_carryOver_84 X ih σ_20 j1 v_19 (x3 + 1) x4 _ _ _ hw h (lv_sub hl [3, 4, 1, 0, 5] rfl)
theorem pd_X11_carryOver : yX11_carryOver.cls ≠ "java/lang/invoke/MethodHandle" ∧ yX11_carryOver.cls ≠ "java/lang/invoke/VarHandle" ∧ (parseMethodDescriptor yX11_carryOver.desc).map (fun d => d.parameters.length) = some 1 := by decide +kernel
set_option maxRecDepth 100000 in
set_option maxHeartbeats 4000000 in
theorem c_X11_carryOver (l : Launch) (D : va_G) (ct : Nat → ClassId) (ad : Nat → Nat → Nat) (L : List (Nat × Nat)) (φ : Nat → Nat → Nat → Bool) (N0 : Nat) (σ : St) (j1 : Nat) (Q : Int → St → Prop) (hw : wp_X11_carryOver σ j1 Q) : Met l yX11_carryOver (.code yX11_carryOver cX11_carryOver 6 (some .int) :: gw) ({ frames := 6, cells := 0, slots := 0, locals := 126 } : Room) (Pm D ct ad L φ N0 σ [.ref (ad 11 0), .ref (ad 10 j1)]) (Qi D ct ad L φ N0 Q) 0 0 (AA N0) := by
  refine m_of (by decide) (fun p e s m below meth c X hnm h => ?_)
  have hF := X.2.2.2.2.2.2.2.2.1
  have hl := lv_entry ([.ref (ad 11 0), .ref (ad 10 j1)]) (n := 6) (Nat.le_of_ble_eq_true rfl)
  rw [lg_entry_eq]
  generalize (lg_sl ([.ref (ad 11 0), .ref (ad 10 j1)]) ++ List.replicate (6 - (lg_sl ([.ref (ad 11 0), .ref (ad 10 j1)])).length) Slot.unset).toArray = ls at hl ⊢
  have hl : lv_has ls 6 [(0, .ref (ad 11 0)), (1, .ref (ad 10 j1))] := hl
  have h : Hs D ct ad L φ N0 s.heap σ s.heap [] := h
  unfold wp_X11_carryOver at hw
  refine lv_aload_n X.1 X.2.1 dX11_carryOver_0 rfl (lv_at hl 0 rfl) ?_
  refine lv_aload_n X.1 X.2.1 dX11_carryOver_1 rfl (lv_at hl 1 rfl) ?_
  refine k_i h (r_V (C := RX11) (ci := 11) (As := [.ref (ad 10 j1)]) (rest := []) X h (c_X11_carryNow l D ct ad L φ N0 σ j1 _ hw) rfl rfl ⟨Nat.le_of_ble_eq_true rfl, Nat.le_of_ble_eq_true rfl⟩ kw_859 kw_861 kw_14 kw_120 kw_862 ⟨rfl, pd_X11_carryNow⟩ (hF.1 11 rfl).1 rfl rfl rfl hl.1 rfl (Nat.le_of_ble_eq_true rfl) ⟨Nat.le_of_ble_eq_true rfl, Nat.le_of_ble_eq_true rfl⟩ dX11_carryOver_2) (fun r_28 σ_27 H locs hw h => ?_)
  refine lv_istore_n (lv' := [(2, .int (iv r_28)), (0, .ref (ad 11 0)), (1, .ref (ad 10 j1))]) X.1 X.2.1 dX11_carryOver_5 rfl hl (by decide) rfl (fun ls hl => ?_)
  refine j_iconst X dX11_carryOver_6 ?_
  refine lv_istore_n (lv' := [(3, .int (iv 0)), (2, .int (iv r_28)), (0, .ref (ad 11 0)), (1, .ref (ad 10 j1))]) X.1 X.2.1 dX11_carryOver_7 rfl hl (by decide) rfl (fun ls hl => ?_)
  refine j_iconst X dX11_carryOver_8 ?_
  refine lv_istore (lv' := [(4, .int (iv 0)), (3, .int (iv 0)), (2, .int (iv r_28)), (0, .ref (ad 11 0)), (1, .ref (ad 10 j1))]) X.1 X.2.1 dX11_carryOver_9 hl (by decide) rfl (fun ls hl => ?_)
  exact hw.elim (fun n11 hw => lb_X11_carryOver_11 X n11 σ_27 j1 r_28 0 0 _ _ _ hw h (lv_sub hl [3, 4, 2, 1, 0] rfl))
end
