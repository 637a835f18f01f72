/-! the law's three helpers, which catch -/
section LH
variable {p : Program} {l : Launch} {e : Env} {R : Room} {s : State} {m : MethodId} {args : Array Value} {below : List Frame} {meth : Method} {c : Code} {H : Heap} {locs : List Loc} {cells slots : Nat} {Q : State → Prop}
variable {cc : ByteArray} {pc : Nat} {ls : Array Slot} {rest : List Value} {D : va_G} {ct : Nat → ClassId} {ad : Nat → Nat → Nat} {L : List (Nat × Nat)} {φ : Nat → Nat → Nat → Bool} {N0 : Nat} {σ : St}
variable {nL : Nat} {ret : Option FieldType} {own : String}
theorem r_SH (X : Cx p s m meth c args cc nL ret own D ct L φ N0) (hZ : Zx N0 s) (h : Hs D ct ad L φ N0 s.heap σ H locs) {y : MethodName} {b9 : ByteArray} {maxL n index : Nat} {rt : Option FieldType} {rm : Room} {Qc : Array Value → State → Outcome → State → Prop} {mc ms : Nat} {hh : List (Nat × Nat × Nat × Nat)} {As st0 : List Value} (hM : Met l y (.codeWith y b9 maxL rt hh :: gw) rm (Pmx D ct ad L φ N0 σ As) Qc mc ms (AA N0)) (hrc : rm.cells = mc) (hrs : rm.slots = ms) (hR : rm.frames + 1 ≤ R.frames ∧ 8 + (maxL + 11) + rm.locals ≤ R.locals) (h1 : Cond.methodLink own index y ∈ gw) (h2 : Cond.static y ∈ gw) (h4 : Cond.initialized y.cls ∈ gw) (h5 : Cond.codeWith y b9 maxL rt hh ∈ gw) (hd : y.cls ≠ "java/lang/invoke/MethodHandle" ∧ y.cls ≠ "java/lang/invoke/VarHandle" ∧ (parseMethodDescriptor y.desc).map (fun d => d.parameters.length) = some n) (hn : As.length = n) (hls : ls.size = nL) (hst : st0 = As.reverse ++ rest) (hW : (rest.map fun v => v.category).sum ≤ 8) (hf : cells + mc ≤ R.cells ∧ slots + ms ≤ R.slots) (hdg : decode cc pc = .ok (.invokestatic index, 3)) : va_Run p l e R s m args below meth c H locs cells slots mc ms (F0 m pc ls st0) rest (Qc As.toArray) (AA N0) := by
  have hG : GoodIn gw (va_wsS own index y (.codeWith y b9 maxL rt hh :: gw)) := gw_good (fun w hw => by
    unfold va_wsS at hw
    simp only [List.mem_append, List.mem_cons, List.not_mem_nil, or_false] at hw
    rcases hw with (rfl | rfl | rfl) | rfl | hw <;> assumption)
  refine vx_runSW (As := As) (rest := rest) ⟨X.1, X.2.1, X.2.2.1, X.2.2.2.2.1, X.2.2.2.2.2.2.1⟩ hM (vx_cwSW n X.2.2.2.2.2.2.1 hG rfl hrc hrs hd hR) ⟨Pmx_blind, fun U hU hW9 => Pmx_of hZ (av := As) hU hW9 X.2.2.2.2.2.2.2.1 X.2.2.2.2.2.2.2.2.1 X.2.2.2.2.2.2.2.2.2 h⟩ rfl hn hls hst (lv_room hW) hdg hf
end LH
theorem pd_L_hand : yL_hand.cls ≠ "java/lang/invoke/MethodHandle" ∧ yL_hand.cls ≠ "java/lang/invoke/VarHandle" ∧ (parseMethodDescriptor yL_hand.desc).map (fun d => d.parameters.length) = some 4 := by decide +kernel
set_option maxRecDepth 100000 in
set_option maxHeartbeats 4000000 in
theorem c_L_hand (l : Launch) (hl0 : l.stackTraces = false) (D : va_G) (ct : Nat → ClassId) (ad : Nat → Nat → Nat) (L : List (Nat × Nat)) (φ : Nat → Nat → Nat → Bool) (N0 : Nat) (hm : (156, 0) ∈ L) (σ : St) (x1 : Int) (x2 : Int) (Q : Int → St → Prop) (hw : wp_X11_hand σ x1 x2 (fun r σ1 => Q 0 (st σ1 156 0 0 r)) (fun σ1 => Q 1 σ1)) : Met l yL_hand (.codeWith yL_hand cL_hand 5 (some .int) [(0, 10, 13, 13)] :: gw) ({ frames := 7, cells := 1, slots := 6, locals := 109 } : Room) (Pmx D ct ad L φ N0 σ [.ref (ad 11 0), .int (iv x1), .int (iv x2), .ref (ad 156 0)]) (Qi D ct ad L φ N0 Q) 1 6 (AA N0) := by
  refine m_ofH (by decide) (fun p e s m below meth c X hT hZ h => ?_)
  have hF := X.2.2.2.2.2.2.2.2.1
  have hts := X.2.2.2.2.2.2.1
  have hl := lv_entry ([.ref (ad 11 0), .int (iv x1), .int (iv x2), .ref (ad 156 0)]) (n := 5) (Nat.le_of_ble_eq_true rfl)
  rw [lg_entry_eq]
  generalize (lg_sl ([.ref (ad 11 0), .int (iv x1), .int (iv x2), .ref (ad 156 0)]) ++ List.replicate (5 - (lg_sl ([.ref (ad 11 0), .int (iv x1), .int (iv x2), .ref (ad 156 0)])).length) Slot.unset).toArray = ls at hl ⊢
  have hl : lv_has ls 5 [(0, .ref (ad 11 0)), (1, .int (iv x1)), (2, .int (iv x2)), (3, .ref (ad 156 0))] := hl
  have h : Hs D ct ad L φ N0 s.heap σ s.heap [] := h
  refine lv_aload_n X.1 X.2.1 dL_hand_0 rfl (lv_at hl 3 rfl) ?_
  refine j_iconst X dL_hand_1 ?_
  refine lv_aload_n X.1 X.2.1 dL_hand_2 rfl (lv_at hl 0 rfl) ?_
  refine lv_iload_n X.1 X.2.1 dL_hand_3 rfl (lv_at hl 1 rfl) ?_
  refine lv_iload_n X.1 X.2.1 dL_hand_4 rfl (lv_at hl 2 rfl) ?_
  refine k_ix (Qc := fun r σ1 => Q 0 (st σ1 156 0 0 r)) (Qx := fun σ1 => Q 1 σ1) h (r_Vx (C := RX11) (ci := 11) (As := [.int (iv x1), .int (iv x2)]) (rest := [.int (iv 0), .ref (ad 156 0)]) X hZ h (c_X11_hand l hl0 D ct ad L φ N0 σ x1 x2 _ _ hw) rfl rfl ⟨Nat.le_of_ble_eq_true rfl, Nat.le_of_ble_eq_true rfl⟩ kw_1543 kw_1544 kw_1545 kw_120 kw_1546 ⟨rfl, pd_X11_hand⟩ (hF.1 11 rfl).1 rfl rfl rfl hl.1 rfl (Nat.le_of_ble_eq_true rfl) ⟨Nat.le_of_ble_eq_true rfl, Nat.le_of_ble_eq_true rfl⟩ dL_hand_5) (fun q9 ce σ1 H locs hq h hc hv hcl => ?_) (fun r σ1 H locs hq h => ?_)
  · refine vx_catch (own := RL) (name := NSE) X.2.2.2.2.1 [] ⟨0, 10, 13, 13⟩ [] hT (fun z hz => by cases hz) (by decide) (by decide) (hts _ kw_1542) (va_Nw.use rfl hZ.2.2.1) hc hv hcl ?_
    refine lv_astore (lv' := (4, .ref q9) :: [(0, .ref (ad 11 0)), (1, .int (iv x1)), (2, .int (iv x2)), (3, .ref (ad 156 0))]) X.1 X.2.1 dL_hand_13 hl (by decide) rfl (fun ls hl => ?_)
    refine j_iconst X dL_hand_15 ?_
    exact k_ir X rfl h hq dL_hand_16
  · refine lv_i2l X.1 X.2.1 dL_hand_8 rfl ?_
    refine r_last X h hm dL_hand_9 (fun H locs h => ?_)
    refine lv_goto (tgt := 17) X.1 X.2.1 dL_hand_10 (by decide) ?_
    refine j_iconst X dL_hand_17 ?_
    exact k_ir X rfl h hq dL_hand_18
theorem pd_L_each : yL_each.cls ≠ "java/lang/invoke/MethodHandle" ∧ yL_each.cls ≠ "java/lang/invoke/VarHandle" ∧ (parseMethodDescriptor yL_each.desc).map (fun d => d.parameters.length) = some 4 := by decide +kernel
set_option maxRecDepth 100000 in
set_option maxHeartbeats 4000000 in
theorem c_L_each (l : Launch) (hl0 : l.stackTraces = false) (D : va_G) (ct : Nat → ClassId) (ad : Nat → Nat → Nat) (L : List (Nat × Nat)) (φ : Nat → Nat → Nat → Bool) (N0 : Nat) (hm : (156, 0) ∈ L) (σ : St) (x1 : Int) (x2 : Int) (Q : Int → St → Prop) (hw : wp_X11_each σ x1 x2 (fun r σ1 => Q 0 (st σ1 156 0 0 r)) (fun σ1 => Q 1 σ1)) : Met l yL_each (.codeWith yL_each cL_each 5 (some .int) [(0, 10, 13, 13)] :: gw) ({ frames := 7, cells := 1, slots := 6, locals := 109 } : Room) (Pmx D ct ad L φ N0 σ [.ref (ad 11 0), .int (iv x1), .int (iv x2), .ref (ad 156 0)]) (Qi D ct ad L φ N0 Q) 1 6 (AA N0) := by
  refine m_ofH (by decide) (fun p e s m below meth c X hT hZ h => ?_)
  have hF := X.2.2.2.2.2.2.2.2.1
  have hts := X.2.2.2.2.2.2.1
  have hl := lv_entry ([.ref (ad 11 0), .int (iv x1), .int (iv x2), .ref (ad 156 0)]) (n := 5) (Nat.le_of_ble_eq_true rfl)
  rw [lg_entry_eq]
  generalize (lg_sl ([.ref (ad 11 0), .int (iv x1), .int (iv x2), .ref (ad 156 0)]) ++ List.replicate (5 - (lg_sl ([.ref (ad 11 0), .int (iv x1), .int (iv x2), .ref (ad 156 0)])).length) Slot.unset).toArray = ls at hl ⊢
  have hl : lv_has ls 5 [(0, .ref (ad 11 0)), (1, .int (iv x1)), (2, .int (iv x2)), (3, .ref (ad 156 0))] := hl
  have h : Hs D ct ad L φ N0 s.heap σ s.heap [] := h
  refine lv_aload_n X.1 X.2.1 dL_each_0 rfl (lv_at hl 3 rfl) ?_
  refine j_iconst X dL_each_1 ?_
  refine lv_aload_n X.1 X.2.1 dL_each_2 rfl (lv_at hl 0 rfl) ?_
  refine lv_iload_n X.1 X.2.1 dL_each_3 rfl (lv_at hl 1 rfl) ?_
  refine lv_iload_n X.1 X.2.1 dL_each_4 rfl (lv_at hl 2 rfl) ?_
  refine k_ix (Qc := fun r σ1 => Q 0 (st σ1 156 0 0 r)) (Qx := fun σ1 => Q 1 σ1) h (r_Vx (C := RX11) (ci := 11) (As := [.int (iv x1), .int (iv x2)]) (rest := [.int (iv 0), .ref (ad 156 0)]) X hZ h (c_X11_each l hl0 D ct ad L φ N0 σ x1 x2 _ _ hw) rfl rfl ⟨Nat.le_of_ble_eq_true rfl, Nat.le_of_ble_eq_true rfl⟩ kw_1620 kw_1621 kw_1622 kw_120 kw_1623 ⟨rfl, pd_X11_each⟩ (hF.1 11 rfl).1 rfl rfl rfl hl.1 rfl (Nat.le_of_ble_eq_true rfl) ⟨Nat.le_of_ble_eq_true rfl, Nat.le_of_ble_eq_true rfl⟩ dL_each_5) (fun q9 ce σ1 H locs hq h hc hv hcl => ?_) (fun r σ1 H locs hq h => ?_)
  · refine vx_catch (own := RL) (name := NSE) X.2.2.2.2.1 [] ⟨0, 10, 13, 13⟩ [] hT (fun z hz => by cases hz) (by decide) (by decide) (hts _ kw_1542) (va_Nw.use rfl hZ.2.2.1) hc hv hcl ?_
    refine lv_astore (lv' := (4, .ref q9) :: [(0, .ref (ad 11 0)), (1, .int (iv x1)), (2, .int (iv x2)), (3, .ref (ad 156 0))]) X.1 X.2.1 dL_each_13 hl (by decide) rfl (fun ls hl => ?_)
    refine j_iconst X dL_each_15 ?_
    exact k_ir X rfl h hq dL_each_16
  · refine lv_i2l X.1 X.2.1 dL_each_8 rfl ?_
    refine r_last X h hm dL_each_9 (fun H locs h => ?_)
    refine lv_goto (tgt := 17) X.1 X.2.1 dL_each_10 (by decide) ?_
    refine j_iconst X dL_each_17 ?_
    exact k_ir X rfl h hq dL_each_18
theorem pd_L_orderOf : yL_orderOf.cls ≠ "java/lang/invoke/MethodHandle" ∧ yL_orderOf.cls ≠ "java/lang/invoke/VarHandle" ∧ (parseMethodDescriptor yL_orderOf.desc).map (fun d => d.parameters.length) = some 4 := by decide +kernel
set_option maxRecDepth 100000 in
set_option maxHeartbeats 4000000 in
theorem c_L_orderOf (l : Launch) (hl0 : l.stackTraces = false) (D : va_G) (ct : Nat → ClassId) (ad : Nat → Nat → Nat) (L : List (Nat × Nat)) (φ : Nat → Nat → Nat → Bool) (N0 : Nat) (hm : (156, 0) ∈ L) (σ : St) (x1 : Int) (x2 : Int) (Q : Int → St → Prop) (hw : wp_X11_orderOf σ x1 x2 (fun r σ1 => Q 0 (st σ1 156 0 0 r)) (fun σ1 => Q 1 σ1)) : Met l yL_orderOf (.codeWith yL_orderOf cL_orderOf 5 (some .int) [(0, 10, 13, 13)] :: gw) ({ frames := 7, cells := 1, slots := 6, locals := 109 } : Room) (Pmx D ct ad L φ N0 σ [.ref (ad 11 0), .int (iv x1), .int (iv x2), .ref (ad 156 0)]) (Qi D ct ad L φ N0 Q) 1 6 (AA N0) := by
  refine m_ofH (by decide) (fun p e s m below meth c X hT hZ h => ?_)
  have hF := X.2.2.2.2.2.2.2.2.1
  have hts := X.2.2.2.2.2.2.1
  have hl := lv_entry ([.ref (ad 11 0), .int (iv x1), .int (iv x2), .ref (ad 156 0)]) (n := 5) (Nat.le_of_ble_eq_true rfl)
  rw [lg_entry_eq]
  generalize (lg_sl ([.ref (ad 11 0), .int (iv x1), .int (iv x2), .ref (ad 156 0)]) ++ List.replicate (5 - (lg_sl ([.ref (ad 11 0), .int (iv x1), .int (iv x2), .ref (ad 156 0)])).length) Slot.unset).toArray = ls at hl ⊢
  have hl : lv_has ls 5 [(0, .ref (ad 11 0)), (1, .int (iv x1)), (2, .int (iv x2)), (3, .ref (ad 156 0))] := hl
  have h : Hs D ct ad L φ N0 s.heap σ s.heap [] := h
  refine lv_aload_n X.1 X.2.1 dL_orderOf_0 rfl (lv_at hl 3 rfl) ?_
  refine j_iconst X dL_orderOf_1 ?_
  refine lv_aload_n X.1 X.2.1 dL_orderOf_2 rfl (lv_at hl 0 rfl) ?_
  refine lv_iload_n X.1 X.2.1 dL_orderOf_3 rfl (lv_at hl 1 rfl) ?_
  refine lv_iload_n X.1 X.2.1 dL_orderOf_4 rfl (lv_at hl 2 rfl) ?_
  refine k_ix (Qc := fun r σ1 => Q 0 (st σ1 156 0 0 r)) (Qx := fun σ1 => Q 1 σ1) h (r_Vx (C := RX11) (ci := 11) (As := [.int (iv x1), .int (iv x2)]) (rest := [.int (iv 0), .ref (ad 156 0)]) X hZ h (c_X11_orderOf l hl0 D ct ad L φ N0 σ x1 x2 _ _ hw) rfl rfl ⟨Nat.le_of_ble_eq_true rfl, Nat.le_of_ble_eq_true rfl⟩ kw_1628 kw_1629 kw_1630 kw_120 kw_1631 ⟨rfl, pd_X11_orderOf⟩ (hF.1 11 rfl).1 rfl rfl rfl hl.1 rfl (Nat.le_of_ble_eq_true rfl) ⟨Nat.le_of_ble_eq_true rfl, Nat.le_of_ble_eq_true rfl⟩ dL_orderOf_5) (fun q9 ce σ1 H locs hq h hc hv hcl => ?_) (fun r σ1 H locs hq h => ?_)
  · refine vx_catch (own := RL) (name := NSE) X.2.2.2.2.1 [] ⟨0, 10, 13, 13⟩ [] hT (fun z hz => by cases hz) (by decide) (by decide) (hts _ kw_1542) (va_Nw.use rfl hZ.2.2.1) hc hv hcl ?_
    refine lv_astore (lv' := (4, .ref q9) :: [(0, .ref (ad 11 0)), (1, .int (iv x1)), (2, .int (iv x2)), (3, .ref (ad 156 0))]) X.1 X.2.1 dL_orderOf_13 hl (by decide) rfl (fun ls hl => ?_)
    refine j_iconst X dL_orderOf_15 ?_
    exact k_ir X rfl h hq dL_orderOf_16
  · refine lv_i2l X.1 X.2.1 dL_orderOf_8 rfl ?_
    refine r_last X h hm dL_orderOf_9 (fun H locs h => ?_)
    refine lv_goto (tgt := 17) X.1 X.2.1 dL_orderOf_10 (by decide) ?_
    refine j_iconst X dL_orderOf_17 ?_
    exact k_ir X rfl h hq dL_orderOf_18
