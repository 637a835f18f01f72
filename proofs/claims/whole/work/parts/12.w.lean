/-! walked by program: 12.w -/
section
variable {p : Program} {l : Launch} {e : Env} {s : State} {m : MethodId} {args : Array Value} {below : List Frame} {meth : Method} {c : Code} {D : va_G} {ct : Nat → ClassId} {ad : Nat → Nat → Nat} {L : List (Nat × Nat)} {φ : Nat → Nat → Nat → Bool} {N0 : Nat}
variable {Q : St → Prop}
theorem pd_X6_handOver : yX6_handOver.cls ≠ "java/lang/invoke/MethodHandle" ∧ yX6_handOver.cls ≠ "java/lang/invoke/VarHandle" ∧ (parseMethodDescriptor yX6_handOver.desc).map (fun d => d.parameters.length) = some 2 := by decide +kernel
def wp_X6_handOver (σ : St) (x1 : Int) (x2 : Int) (Q : St → Prop) : Prop := 0 ≤ x1 ∧ x1 < 30 ∧ inR (σ 57 0 (Int.toNat x1)) ∧ (¬ (σ 57 0 (Int.toNat x1)) = 0 → 0 ≤ x1 ∧ x1 < 30 ∧ 0 ≤ x1 ∧ x1 < 30 ∧ ∀ σ_8 : St, σ_8 = st σ 57 0 (Int.toNat x1) ((σ 57 0 (Int.toNat x1)) - 1) → (0 ≤ x1 ∧ x1 < 30 ∧ inR (σ_8 57 0 (Int.toNat x1)) ∧ (¬ (σ_8 57 0 (Int.toNat x1)) = 0 → Q σ_8) ∧ ((σ_8 57 0 (Int.toNat x1)) = 0 → 0 ≤ x1 ∧ x1 < 30 ∧ ∀ σ_14 : St, σ_14 = st σ_8 60 0 (Int.toNat x1) x2 → (Q σ_14)))) ∧ ((σ 57 0 (Int.toNat x1)) = 0 → ∀ σ_16 : St, σ_16 = st σ 6 0 7 ((σ 6 0 7) + 1) → (Q σ_16))
set_option maxRecDepth 100000 in
set_option maxHeartbeats 4000000 in
theorem c_X6_handOver (l : Launch) (D : va_G) (ct : Nat → ClassId) (ad : Nat → Nat → Nat) (L : List (Nat × Nat)) (φ : Nat → Nat → Nat → Bool) (N0 : Nat) (σ : St) (x1 : Int) (x2 : Int) (Q : St → Prop) (hw : wp_X6_handOver σ x1 x2 Q) : Met l yX6_handOver (.code yX6_handOver cX6_handOver 3 none :: gw) ({ frames := 0, cells := 0, slots := 0, locals := 0 } : Room) (Pm D ct ad L φ N0 σ [.ref (ad 6 0), .int (iv x1), .int (iv x2)]) (Qv D ct ad L φ N0 Q) 0 0 (AA N0) := by
  refine m_of (by decide) (fun p e s m below meth c X hnm h => ?_)
  have hF := X.2.2.2.2.2.2.2.2.1
  have hl := lv_entry ([.ref (ad 6 0), .int (iv x1), .int (iv x2)]) (n := 3) (Nat.le_of_ble_eq_true rfl)
  rw [lg_entry_eq]
  generalize (lg_sl ([.ref (ad 6 0), .int (iv x1), .int (iv x2)]) ++ List.replicate (3 - (lg_sl ([.ref (ad 6 0), .int (iv x1), .int (iv x2)])).length) Slot.unset).toArray = ls at hl ⊢
  have hl : lv_has ls 3 [(0, .ref (ad 6 0)), (1, .int (iv x1)), (2, .int (iv x2))] := hl
  have h : Hs D ct ad L φ N0 s.heap σ s.heap [] := h
  unfold wp_X6_handOver at hw
  refine lv_aload_n X.1 X.2.1 dX6_handOver_0 rfl (lv_at hl 0 rfl) ?_
  refine r_getR (ci := 6) X inw_6 h (hF.1 6 rfl).1 rfl rfl 2 (by decide) kw_335 rfl ((hF.1 6 rfl).2 2) dX6_handOver_1 ?_
  refine lv_iload_n X.1 X.2.1 dX6_handOver_4 rfl (lv_at hl 1 rfl) ?_
  obtain ⟨g_1, g_2, hw⟩ := hw
  refine r_iald (n := 30) X h (hF.1 57 rfl).1 rfl (by decide) g_1 g_2 dX6_handOver_5 ?_
  obtain ⟨g_3, hwt, hwf⟩ := hw
  refine j_if_ne (tgt := 20) X g_3 dX6_handOver_6 (by decide) (fun c_17 => ?_) (fun c_17 => ?_)
  · have hw := hwt c_17
    refine lv_aload_n X.1 X.2.1 dX6_handOver_20 rfl (lv_at hl 0 rfl) ?_
    refine r_getR (ci := 6) X inw_6 h (hF.1 6 rfl).1 rfl rfl 2 (by decide) kw_335 rfl ((hF.1 6 rfl).2 2) dX6_handOver_21 ?_
    refine lv_iload_n X.1 X.2.1 dX6_handOver_24 rfl (lv_at hl 1 rfl) ?_
    refine lv_dup2_11 X.1 X.2.1 dX6_handOver_25 rfl rfl ?_
    obtain ⟨g_4, g_5, hw⟩ := hw
    refine r_iald (n := 30) X h (hF.1 57 rfl).1 rfl (by decide) g_4 g_5 dX6_handOver_26 ?_
    refine j_iconst X dX6_handOver_27 ?_
    refine j_isub X dX6_handOver_28 ?_
    obtain ⟨g_6, g_7, hw⟩ := hw
    refine r_iast (n := 30) X h (hF.1 57 rfl).1 (fun _ => rfl) (by decide) g_6 g_7 rfl dX6_handOver_29 (fun H locs h => ?_)
    obtain ⟨σ_8, eσ_8⟩ : ∃ z : St, z = st σ 57 0 (Int.toNat x1) ((σ 57 0 (Int.toNat x1)) - 1) := ⟨_, rfl⟩
    rw [← eσ_8] at h
    have hw := hw σ_8 eσ_8
    refine lv_aload_n X.1 X.2.1 dX6_handOver_30 rfl (lv_at hl 0 rfl) ?_
    refine r_getR (ci := 6) X inw_6 h (hF.1 6 rfl).1 rfl rfl 2 (by decide) kw_335 rfl ((hF.1 6 rfl).2 2) dX6_handOver_31 ?_
    refine lv_iload_n X.1 X.2.1 dX6_handOver_34 rfl (lv_at hl 1 rfl) ?_
    obtain ⟨g_9, g_10, hw⟩ := hw
    refine r_iald (n := 30) X h (hF.1 57 rfl).1 rfl (by decide) g_9 g_10 dX6_handOver_35 ?_
    obtain ⟨g_11, hwt, hwf⟩ := hw
    refine j_if_ne (tgt := 46) X g_11 dX6_handOver_36 (by decide) (fun c_15 => ?_) (fun c_15 => ?_)
    · have hw := hwt c_15
      exact k_vr X h hw dX6_handOver_46
    · have hw := hwf c_15
      refine lv_aload_n X.1 X.2.1 dX6_handOver_39 rfl (lv_at hl 0 rfl) ?_
      refine r_getR (ci := 6) X inw_6 h (hF.1 6 rfl).1 rfl rfl 5 (by decide) kw_340 rfl ((hF.1 6 rfl).2 5) dX6_handOver_40 ?_
      refine lv_iload_n X.1 X.2.1 dX6_handOver_43 rfl (lv_at hl 1 rfl) ?_
      refine lv_iload_n X.1 X.2.1 dX6_handOver_44 rfl (lv_at hl 2 rfl) ?_
      obtain ⟨g_12, g_13, hw⟩ := hw
      refine r_iast (n := 30) X h (hF.1 60 rfl).1 (fun _ => rfl) (by decide) g_12 g_13 rfl dX6_handOver_45 (fun H locs h => ?_)
      obtain ⟨σ_14, eσ_14⟩ : ∃ z : St, z = st σ_8 60 0 (Int.toNat x1) x2 := ⟨_, rfl⟩
      rw [← eσ_14] at h
      have hw := hw σ_14 eσ_14
      exact k_vr X h hw dX6_handOver_46
  · have hw := hwf c_17
    refine lv_aload_n X.1 X.2.1 dX6_handOver_9 rfl (lv_at hl 0 rfl) ?_
    refine lv_dup X.1 X.2.1 dX6_handOver_10 rfl ?_
    refine r_get (ci := 6) X inw_6 h (hF.1 6 rfl).1 rfl rfl 7 (by decide) kw_344 rfl dX6_handOver_11 ?_
    refine j_iconst X dX6_handOver_14 ?_
    refine j_iadd X dX6_handOver_15 ?_
    refine r_put (ci := 6) X inw_6 tyX6 tyX6_ok nmX6 h (hF.1 6 rfl).1 rfl rfl 7 (by decide) kw_344 rfl rfl rfl (Nat.le_of_ble_eq_true rfl) rfl rfl dX6_handOver_16 (fun H locs h => ?_)
    obtain ⟨σ_16, eσ_16⟩ : ∃ z : St, z = st σ 6 0 7 ((σ 6 0 7) + 1) := ⟨_, rfl⟩
    rw [← eσ_16] at h
    have hw := hw σ_16 eσ_16
    exact k_vr X h hw dX6_handOver_19
end
section
variable {p : Program} {l : Launch} {e : Env} {s : State} {m : MethodId} {args : Array Value} {below : List Frame} {meth : Method} {c : Code} {D : va_G} {ct : Nat → ClassId} {ad : Nat → Nat → Nat} {L : List (Nat × Nat)} {φ : Nat → Nat → Nat → Bool} {N0 : Nat}
variable {Q : Int → St → Prop}
def wp_X6_deliver_53 (K5 : St → Int → Int → Int → Int → Prop) (Q : Int → St → Prop) (σ : St) (x1 : Int) (x2 : Int) (x3 : Int) (x4 : Int) : Prop := K5 σ x1 x2 x3 (x4 + 1)
set_option maxRecDepth 100000 in
set_option maxHeartbeats 4000000 in
theorem lb_X6_deliver_53 (X : Cx p s m meth c args cX6_deliver 5 (some .int) RX6 D ct L φ N0) {K5 : St → Int → Int → Int → Int → Prop} (hK5 : ∀ (σ : St) (x1 : Int) (x2 : Int) (x3 : Int) (x4 : Int) (H : Heap) (locs : List Loc) (ls : Array Slot), K5 σ x1 x2 x3 x4 → Hs D ct ad L φ N0 s.heap σ H locs → lv_has ls 5 [(0, .ref (ad 6 0)), (1, .int (iv x1)), (2, .int (iv x2)), (3, .int (iv x3)), (4, .int (iv x4))] → W p l e ({ frames := 1, cells := 0, slots := 0, locals := 22 } : Room) s m args below meth c H locs 0 0 (MQ below (Qi D ct ad L φ N0 Q) args s 0 0 (AA N0)) (F0 m 5 ls [])) (σ : St) (x1 : Int) (x2 : Int) (x3 : Int) (x4 : Int) (H : Heap) (locs : List Loc) (ls : Array Slot) (hw : wp_X6_deliver_53 K5 Q σ x1 x2 x3 x4) (h : Hs D ct ad L φ N0 s.heap σ H locs) (hl : lv_has ls 5 [(0, .ref (ad 6 0)), (1, .int (iv x1)), (2, .int (iv x2)), (3, .int (iv x3)), (4, .int (iv x4))]) : W p l e ({ frames := 1, cells := 0, slots := 0, locals := 22 } : Room) s m args below meth c H locs 0 0 (MQ below (Qi D ct ad L φ N0 Q) args s 0 0 (AA N0)) (F0 m 53 ls []) := by
  have hF := X.2.2.2.2.2.2.2.2.1
  unfold wp_X6_deliver_53 at hw
  refine j_iinc (kk9 := 4) (lv' := [(4, .int (iv (x4 + 1))), (0, .ref (ad 6 0)), (1, .int (iv x1)), (2, .int (iv x2)), (3, .int (iv x3))]) X dX6_deliver_53 hl rfl (by decide) rfl (fun ls hl => ?_)
  refine lv_goto (tgt := 5) X.1 X.2.1 dX6_deliver_56 (by decide) ?_
  exact hK5 σ x1 x2 x3 (x4 + 1) _ _ _ hw h (lv_sub hl [1, 2, 3, 4, 0] rfl)
def wp_X6_deliver_5 (Q : Int → St → Prop) : Nat → St → Int → Int → Int → Int → Prop
  | 0, _, _, _, _, _ => False
  | n + 1, σ, x1, x2, x3, x4 => inR x4 ∧ inR x1 ∧ (x1 ≤ x4 → Q x3 σ) ∧ (¬ x1 ≤ x4 → inR x4 ∧ (34 ≤ x4 → Q x3 σ) ∧ (¬ 34 ≤ x4 → 0 ≤ x4 ∧ x4 < 35 ∧ wp_X11_within σ (σ 63 0 (Int.toNat x4)) 0 ((σ 6 0 6) - 1) (fun r_7 σ_6 => inR r_7 ∧ (r_7 = 0 → wp_X6_deliver_53 (fun σ x1 x2 x3 x4 => wp_X6_deliver_5 Q n σ x1 x2 x3 x4) Q σ_6 x1 x2 x3 x4) ∧ (¬ r_7 = 0 → 0 ≤ x4 ∧ x4 < 35 ∧ wp_X6_handOver σ_6 (σ_6 63 0 (Int.toNat x4)) x2 (fun σ_11 => wp_X6_deliver_53 (fun σ x1 x2 x3 x4 => wp_X6_deliver_5 Q n σ x1 x2 x3 x4) Q σ_11 x1 x2 (x3 + 1) x4)))))
set_option maxRecDepth 100000 in
set_option maxHeartbeats 4000000 in
theorem lb_X6_deliver_5 (X : Cx p s m meth c args cX6_deliver 5 (some .int) RX6 D ct L φ N0) : ∀ (n : Nat) (σ : St) (x1 : Int) (x2 : Int) (x3 : Int) (x4 : Int) (H : Heap) (locs : List Loc) (ls : Array Slot), wp_X6_deliver_5 Q n σ x1 x2 x3 x4 → Hs D ct ad L φ N0 s.heap σ H locs → lv_has ls 5 [(0, .ref (ad 6 0)), (1, .int (iv x1)), (2, .int (iv x2)), (3, .int (iv x3)), (4, .int (iv x4))] → W p l e ({ frames := 1, cells := 0, slots := 0, locals := 22 } : Room) s m args below meth c H locs 0 0 (MQ below (Qi D ct ad L φ N0 Q) args s 0 0 (AA N0)) (F0 m 5 ls []) := by
  have hF := X.2.2.2.2.2.2.2.2.1
  intro n
  induction n with
  | zero => intro σ x1 x2 x3 x4 H locs ls hw; exact hw.elim
  | succ n ih =>
    intro σ x1 x2 x3 x4 H locs ls hw h hl
    unfold wp_X6_deliver_5 at hw
    refine lv_iload X.1 X.2.1 dX6_deliver_5 (lv_at hl 4 rfl) ?_
    refine lv_iload_n X.1 X.2.1 dX6_deliver_7 rfl (lv_at hl 1 rfl) ?_
    obtain ⟨g_1, g_2, hwt, hwf⟩ := hw
    refine j_cmp_ge (tgt := 59) X g_1 g_2 dX6_deliver_8 (by decide) (fun c_14 => ?_) (fun c_14 => ?_)
    · have hw := hwt c_14
      refine lv_iload_n X.1 X.2.1 dX6_deliver_59 rfl (lv_at hl 3 rfl) ?_
      exact k_ir X rfl h hw dX6_deliver_60
    · have hw := hwf c_14
      refine lv_iload X.1 X.2.1 dX6_deliver_11 (lv_at hl 4 rfl) ?_
      refine j_bipush X dX6_deliver_13 (by decide) ?_
      obtain ⟨g_3, hwt, hwf⟩ := hw
      refine j_cmp_ge (tgt := 59) X g_3 ⟨by decide, by decide⟩ dX6_deliver_15 (by decide) (fun c_13 => ?_) (fun c_13 => ?_)
      · have hw := hwt c_13
        refine lv_iload_n X.1 X.2.1 dX6_deliver_59 rfl (lv_at hl 3 rfl) ?_
        exact k_ir X rfl h hw dX6_deliver_60
      · have hw := hwf c_13
        refine lv_aload_n X.1 X.2.1 dX6_deliver_18 rfl (lv_at hl 0 rfl) ?_
        refine r_getR (ci := 6) X inw_6 h (hF.1 6 rfl).1 rfl rfl 10 (by decide) kw_349 rfl ((hF.1 6 rfl).2 10) dX6_deliver_19 ?_
        refine lv_iload X.1 X.2.1 dX6_deliver_22 (lv_at hl 4 rfl) ?_
        obtain ⟨g_4, g_5, hw⟩ := hw
        refine r_iald (n := 35) X h (hF.1 63 rfl).1 rfl (by decide) g_4 g_5 dX6_deliver_24 ?_
        refine j_iconst X dX6_deliver_25 ?_
        refine lv_aload_n X.1 X.2.1 dX6_deliver_26 rfl (lv_at hl 0 rfl) ?_
        refine r_get (ci := 6) X inw_6 h (hF.1 6 rfl).1 rfl rfl 6 (by decide) kw_342 rfl dX6_deliver_27 ?_
        refine j_iconst X dX6_deliver_30 ?_
        refine j_isub X dX6_deliver_31 ?_
        refine k_i h (r_SN (As := [.int (iv (σ 63 0 (Int.toNat x4))), .int (iv 0), .int (iv ((σ 6 0 6) - 1))]) (rest := []) X h (c_X11_within l D ct ad L φ N0 σ (σ 63 0 (Int.toNat x4)) 0 ((σ 6 0 6) - 1) _ hw) rfl rfl ⟨Nat.le_of_ble_eq_true rfl, Nat.le_of_ble_eq_true rfl⟩ kw_1292 kw_527 kw_120 kw_528 pd_X11_within rfl hl.1 rfl (Nat.le_of_ble_eq_true rfl) ⟨Nat.le_of_ble_eq_true rfl, Nat.le_of_ble_eq_true rfl⟩ dX6_deliver_32) (fun r_7 σ_6 H locs hw h => ?_)
        obtain ⟨g_8, hwt, hwf⟩ := hw
        refine j_if_eq (tgt := 53) X g_8 dX6_deliver_35 (by decide) (fun c_12 => ?_) (fun c_12 => ?_)
        · have hw := hwt c_12
          exact lb_X6_deliver_53 X ih σ_6 x1 x2 x3 x4 _ _ _ hw h (lv_sub hl [0, 1, 2, 3, 4] rfl)
        · have hw := hwf c_12
          refine j_iinc (kk9 := 3) (lv' := [(3, .int (iv (x3 + 1))), (0, .ref (ad 6 0)), (1, .int (iv x1)), (2, .int (iv x2)), (4, .int (iv x4))]) X dX6_deliver_38 hl rfl (by decide) rfl (fun ls hl => ?_)
          refine lv_aload_n X.1 X.2.1 dX6_deliver_41 rfl (lv_at hl 1 rfl) ?_
          refine lv_aload_n X.1 X.2.1 dX6_deliver_42 rfl (lv_at hl 1 rfl) ?_
          refine r_getR (ci := 6) X inw_6 h (hF.1 6 rfl).1 rfl rfl 10 (by decide) kw_349 rfl ((hF.1 6 rfl).2 10) dX6_deliver_43 ?_
          refine lv_iload X.1 X.2.1 dX6_deliver_46 (lv_at hl 4 rfl) ?_
          obtain ⟨g_9, g_10, hw⟩ := hw
          refine r_iald (n := 35) X h (hF.1 63 rfl).1 rfl (by decide) g_9 g_10 dX6_deliver_48 ?_
          refine lv_iload_n X.1 X.2.1 dX6_deliver_49 rfl (lv_at hl 3 rfl) ?_
          refine k_v h (r_V (C := RX6) (ci := 6) (As := [.int (iv (σ_6 63 0 (Int.toNat x4))), .int (iv x2)]) (rest := []) X h (c_X6_handOver l D ct ad L φ N0 σ_6 (σ_6 63 0 (Int.toNat x4)) x2 _ hw) rfl rfl ⟨Nat.le_of_ble_eq_true rfl, Nat.le_of_ble_eq_true rfl⟩ kw_1293 kw_1295 kw_43 kw_126 kw_1296 ⟨rfl, pd_X6_handOver⟩ (hF.1 6 rfl).1 rfl rfl rfl hl.1 rfl (Nat.le_of_ble_eq_true rfl) ⟨Nat.le_of_ble_eq_true rfl, Nat.le_of_ble_eq_true rfl⟩ dX6_deliver_50) (fun σ_11 H locs hw h => ?_)
          exact lb_X6_deliver_53 X ih σ_11 x1 x2 (x3 + 1) x4 _ _ _ hw h (lv_sub hl [1, 2, 3, 0, 4] rfl)
theorem pd_X6_deliver : yX6_deliver.cls ≠ "java/lang/invoke/MethodHandle" ∧ yX6_deliver.cls ≠ "java/lang/invoke/VarHandle" ∧ (parseMethodDescriptor yX6_deliver.desc).map (fun d => d.parameters.length) = some 2 := by decide +kernel
def wp_X6_deliver (σ : St) (x1 : Int) (x2 : Int) (Q : Int → St → Prop) : Prop := ∃ n5, wp_X6_deliver_5 Q n5 σ x1 x2 0 0
set_option maxRecDepth 100000 in
set_option maxHeartbeats 4000000 in
theorem c_X6_deliver (l : Launch) (D : va_G) (ct : Nat → ClassId) (ad : Nat → Nat → Nat) (L : List (Nat × Nat)) (φ : Nat → Nat → Nat → Bool) (N0 : Nat) (σ : St) (x1 : Int) (x2 : Int) (Q : Int → St → Prop) (hw : wp_X6_deliver σ x1 x2 Q) : Met l yX6_deliver (.code yX6_deliver cX6_deliver 5 (some .int) :: gw) ({ frames := 1, cells := 0, slots := 0, locals := 22 } : Room) (Pm D ct ad L φ N0 σ [.ref (ad 6 0), .int (iv x1), .int (iv x2)]) (Qi D ct ad L φ N0 Q) 0 0 (AA N0) := by
  refine m_of (by decide) (fun p e s m below meth c X hnm h => ?_)
  have hF := X.2.2.2.2.2.2.2.2.1
  have hl := lv_entry ([.ref (ad 6 0), .int (iv x1), .int (iv x2)]) (n := 5) (Nat.le_of_ble_eq_true rfl)
  rw [lg_entry_eq]
  generalize (lg_sl ([.ref (ad 6 0), .int (iv x1), .int (iv x2)]) ++ List.replicate (5 - (lg_sl ([.ref (ad 6 0), .int (iv x1), .int (iv x2)])).length) Slot.unset).toArray = ls at hl ⊢
  have hl : lv_has ls 5 [(0, .ref (ad 6 0)), (1, .int (iv x1)), (2, .int (iv x2))] := hl
  have h : Hs D ct ad L φ N0 s.heap σ s.heap [] := h
  unfold wp_X6_deliver at hw
  refine j_iconst X dX6_deliver_0 ?_
  refine lv_istore_n (lv' := [(3, .int (iv 0)), (0, .ref (ad 6 0)), (1, .int (iv x1)), (2, .int (iv x2))]) X.1 X.2.1 dX6_deliver_1 rfl hl (by decide) rfl (fun ls hl => ?_)
  refine j_iconst X dX6_deliver_2 ?_
  refine lv_istore (lv' := [(4, .int (iv 0)), (3, .int (iv 0)), (0, .ref (ad 6 0)), (1, .int (iv x1)), (2, .int (iv x2))]) X.1 X.2.1 dX6_deliver_3 hl (by decide) rfl (fun ls hl => ?_)
  exact hw.elim (fun n5 hw => lb_X6_deliver_5 X n5 σ x1 x2 0 0 _ _ _ hw h (lv_sub hl [2, 3, 4, 1, 0] rfl))
end
section
variable {p : Program} {l : Launch} {e : Env} {s : State} {m : MethodId} {args : Array Value} {below : List Frame} {meth : Method} {c : Code} {D : va_G} {ct : Nat → ClassId} {ad : Nat → Nat → Nat} {L : List (Nat × Nat)} {φ : Nat → Nat → Nat → Bool} {N0 : Nat}
variable {Q : Int → St → Prop}
def wp_X7_tellingFor_44 (K4 : St → Int → Int → Int → Prop) (Q : Int → St → Prop) (σ : St) (x1 : Int) (x2 : Int) (x3 : Int) : Prop := K4 σ x1 x2 (x3 + 1)
set_option maxRecDepth 100000 in
set_option maxHeartbeats 4000000 in
theorem lb_X7_tellingFor_44 (X : Cx p s m meth c args cX7_tellingFor 4 (some .int) RX7 D ct L φ N0) {K4 : St → Int → Int → Int → Prop} (hK4 : ∀ (σ : St) (x1 : Int) (x2 : Int) (x3 : Int) (H : Heap) (locs : List Loc) (ls : Array Slot), K4 σ x1 x2 x3 → Hs D ct ad L φ N0 s.heap σ H locs → lv_has ls 4 [(0, .ref (ad 7 0)), (1, .int (iv x1)), (2, .int (iv x2)), (3, .int (iv x3))] → W p l e ({ frames := 0, cells := 0, slots := 0, locals := 0 } : Room) s m args below meth c H locs 0 0 (MQ below (Qi D ct ad L φ N0 Q) args s 0 0 (AA N0)) (F0 m 4 ls [])) (σ : St) (x1 : Int) (x2 : Int) (x3 : Int) (H : Heap) (locs : List Loc) (ls : Array Slot) (hw : wp_X7_tellingFor_44 K4 Q σ x1 x2 x3) (h : Hs D ct ad L φ N0 s.heap σ H locs) (hl : lv_has ls 4 [(0, .ref (ad 7 0)), (1, .int (iv x1)), (2, .int (iv x2)), (3, .int (iv x3))]) : W p l e ({ frames := 0, cells := 0, slots := 0, locals := 0 } : Room) s m args below meth c H locs 0 0 (MQ below (Qi D ct ad L φ N0 Q) args s 0 0 (AA N0)) (F0 m 44 ls []) := by
  have hF := X.2.2.2.2.2.2.2.2.1
  unfold wp_X7_tellingFor_44 at hw
  refine j_iinc (kk9 := 3) (lv' := [(3, .int (iv (x3 + 1))), (0, .ref (ad 7 0)), (1, .int (iv x1)), (2, .int (iv x2))]) X dX7_tellingFor_44 hl rfl (by decide) rfl (fun ls hl => ?_)
  refine lv_goto (tgt := 4) X.1 X.2.1 dX7_tellingFor_47 (by decide) ?_
  exact hK4 σ x1 x2 (x3 + 1) _ _ _ hw h (lv_sub hl [1, 2, 3, 0] rfl)
def wp_X7_tellingFor_42 (K4 : St → Int → Int → Int → Prop) (Q : Int → St → Prop) (σ : St) (x1 : Int) (x3 : Int) : Prop := wp_X7_tellingFor_44 K4 Q σ x1 x3 x3
set_option maxRecDepth 100000 in
set_option maxHeartbeats 4000000 in
theorem lb_X7_tellingFor_42 (X : Cx p s m meth c args cX7_tellingFor 4 (some .int) RX7 D ct L φ N0) {K4 : St → Int → Int → Int → Prop} (hK4 : ∀ (σ : St) (x1 : Int) (x2 : Int) (x3 : Int) (H : Heap) (locs : List Loc) (ls : Array Slot), K4 σ x1 x2 x3 → Hs D ct ad L φ N0 s.heap σ H locs → lv_has ls 4 [(0, .ref (ad 7 0)), (1, .int (iv x1)), (2, .int (iv x2)), (3, .int (iv x3))] → W p l e ({ frames := 0, cells := 0, slots := 0, locals := 0 } : Room) s m args below meth c H locs 0 0 (MQ below (Qi D ct ad L φ N0 Q) args s 0 0 (AA N0)) (F0 m 4 ls [])) (σ : St) (x1 : Int) (x3 : Int) (H : Heap) (locs : List Loc) (ls : Array Slot) (hw : wp_X7_tellingFor_42 K4 Q σ x1 x3) (h : Hs D ct ad L φ N0 s.heap σ H locs) (hl : lv_has ls 4 [(0, .ref (ad 7 0)), (1, .int (iv x1)), (3, .int (iv x3))]) : W p l e ({ frames := 0, cells := 0, slots := 0, locals := 0 } : Room) s m args below meth c H locs 0 0 (MQ below (Qi D ct ad L φ N0 Q) args s 0 0 (AA N0)) (F0 m 42 ls []) := by
  have hF := X.2.2.2.2.2.2.2.2.1
  unfold wp_X7_tellingFor_42 at hw
  refine lv_iload_n X.1 X.2.1 dX7_tellingFor_42 rfl (lv_at hl 2 rfl) ?_
  refine lv_istore_n (lv' := [(2, .int (iv x3)), (0, .ref (ad 7 0)), (1, .int (iv x1)), (3, .int (iv x3))]) X.1 X.2.1 dX7_tellingFor_43 rfl hl (by decide) rfl (fun ls hl => ?_)
  exact lb_X7_tellingFor_44 X hK4 σ x1 x3 x3 _ _ _ hw h (lv_sub hl [1, 2, 0, 3] rfl)
def wp_X7_tellingFor_4 (Q : Int → St → Prop) : Nat → St → Int → Int → Int → Prop
  | 0, _, _, _, _ => False
  | n + 1, σ, x1, x2, x3 => inR x3 ∧ inR (σ 7 0 2) ∧ ((σ 7 0 2) ≤ x3 → Q x2 σ) ∧ (¬ (σ 7 0 2) ≤ x3 → 0 ≤ x3 ∧ x3 < 200 ∧ inR (σ 64 0 (Int.toNat x3)) ∧ inR x1 ∧ (x1 < (σ 64 0 (Int.toNat x3)) → wp_X7_tellingFor_44 (fun σ x1 x2 x3 => wp_X7_tellingFor_4 Q n σ x1 x2 x3) Q σ x1 x2 x3) ∧ (¬ x1 < (σ 64 0 (Int.toNat x3)) → inR x2 ∧ (x2 = (-1) → wp_X7_tellingFor_42 (fun σ x1 x2 x3 => wp_X7_tellingFor_4 Q n σ x1 x2 x3) Q σ x1 x3) ∧ (¬ x2 = (-1) → 0 ≤ x3 ∧ x3 < 200 ∧ 0 ≤ x2 ∧ x2 < 200 ∧ inR (σ 64 0 (Int.toNat x3)) ∧ inR (σ 64 0 (Int.toNat x2)) ∧ ((σ 64 0 (Int.toNat x3)) < (σ 64 0 (Int.toNat x2)) → wp_X7_tellingFor_44 (fun σ x1 x2 x3 => wp_X7_tellingFor_4 Q n σ x1 x2 x3) Q σ x1 x2 x3) ∧ (¬ (σ 64 0 (Int.toNat x3)) < (σ 64 0 (Int.toNat x2)) → wp_X7_tellingFor_42 (fun σ x1 x2 x3 => wp_X7_tellingFor_4 Q n σ x1 x2 x3) Q σ x1 x3))))
set_option maxRecDepth 100000 in
set_option maxHeartbeats 4000000 in
theorem lb_X7_tellingFor_4 (X : Cx p s m meth c args cX7_tellingFor 4 (some .int) RX7 D ct L φ N0) : ∀ (n : Nat) (σ : St) (x1 : Int) (x2 : Int) (x3 : Int) (H : Heap) (locs : List Loc) (ls : Array Slot), wp_X7_tellingFor_4 Q n σ x1 x2 x3 → Hs D ct ad L φ N0 s.heap σ H locs → lv_has ls 4 [(0, .ref (ad 7 0)), (1, .int (iv x1)), (2, .int (iv x2)), (3, .int (iv x3))] → W p l e ({ frames := 0, cells := 0, slots := 0, locals := 0 } : Room) s m args below meth c H locs 0 0 (MQ below (Qi D ct ad L φ N0 Q) args s 0 0 (AA N0)) (F0 m 4 ls []) := by
  have hF := X.2.2.2.2.2.2.2.2.1
  intro n
  induction n with
  | zero => intro σ x1 x2 x3 H locs ls hw; exact hw.elim
  | succ n ih =>
    intro σ x1 x2 x3 H locs ls hw h hl
    unfold wp_X7_tellingFor_4 at hw
    refine lv_iload_n X.1 X.2.1 dX7_tellingFor_4 rfl (lv_at hl 3 rfl) ?_
    refine lv_aload_n X.1 X.2.1 dX7_tellingFor_5 rfl (lv_at hl 0 rfl) ?_
    refine r_get (ci := 7) X inw_7 h (hF.1 7 rfl).1 rfl rfl 2 (by decide) kw_161 rfl dX7_tellingFor_6 ?_
    obtain ⟨g_1, g_2, hwt, hwf⟩ := hw
    refine j_cmp_ge (tgt := 50) X g_1 g_2 dX7_tellingFor_9 (by decide) (fun c_17 => ?_) (fun c_17 => ?_)
    · have hw := hwt c_17
      refine lv_iload_n X.1 X.2.1 dX7_tellingFor_50 rfl (lv_at hl 2 rfl) ?_
      exact k_ir X rfl h hw dX7_tellingFor_51
    · have hw := hwf c_17
      refine lv_aload_n X.1 X.2.1 dX7_tellingFor_12 rfl (lv_at hl 0 rfl) ?_
      refine r_getR (ci := 7) X inw_7 h (hF.1 7 rfl).1 rfl rfl 0 (by decide) kw_159 rfl ((hF.1 7 rfl).2 0) dX7_tellingFor_13 ?_
      refine lv_iload_n X.1 X.2.1 dX7_tellingFor_16 rfl (lv_at hl 3 rfl) ?_
      obtain ⟨g_3, g_4, hw⟩ := hw
      refine r_iald (n := 200) X h (hF.1 64 rfl).1 rfl (by decide) g_3 g_4 dX7_tellingFor_17 ?_
      refine lv_iload_n X.1 X.2.1 dX7_tellingFor_18 rfl (lv_at hl 1 rfl) ?_
      obtain ⟨g_5, g_6, hwt, hwf⟩ := hw
      refine j_cmp_gt (tgt := 44) X g_5 g_6 dX7_tellingFor_19 (by decide) (fun c_16 => ?_) (fun c_16 => ?_)
      · have hw := hwt c_16
        exact lb_X7_tellingFor_44 X ih σ x1 x2 x3 _ _ _ hw h (lv_sub hl [0, 1, 2, 3] rfl)
      · have hw := hwf c_16
        refine lv_iload_n X.1 X.2.1 dX7_tellingFor_22 rfl (lv_at hl 2 rfl) ?_
        refine j_iconst X dX7_tellingFor_23 ?_
        obtain ⟨g_7, hwt, hwf⟩ := hw
        refine j_cmp_eq (tgt := 42) X g_7 ⟨by decide, by decide⟩ dX7_tellingFor_24 (by decide) (fun c_15 => ?_) (fun c_15 => ?_)
        · have hw := hwt c_15
          exact lb_X7_tellingFor_42 X ih σ x1 x3 _ _ _ hw h (lv_sub hl [0, 1, 3] rfl)
        · have hw := hwf c_15
          refine lv_aload_n X.1 X.2.1 dX7_tellingFor_27 rfl (lv_at hl 0 rfl) ?_
          refine r_getR (ci := 7) X inw_7 h (hF.1 7 rfl).1 rfl rfl 0 (by decide) kw_159 rfl ((hF.1 7 rfl).2 0) dX7_tellingFor_28 ?_
          refine lv_iload_n X.1 X.2.1 dX7_tellingFor_31 rfl (lv_at hl 3 rfl) ?_
          obtain ⟨g_8, g_9, hw⟩ := hw
          refine r_iald (n := 200) X h (hF.1 64 rfl).1 rfl (by decide) g_8 g_9 dX7_tellingFor_32 ?_
          refine lv_aload_n X.1 X.2.1 dX7_tellingFor_33 rfl (lv_at hl 0 rfl) ?_
          refine r_getR (ci := 7) X inw_7 h (hF.1 7 rfl).1 rfl rfl 0 (by decide) kw_159 rfl ((hF.1 7 rfl).2 0) dX7_tellingFor_34 ?_
          refine lv_iload_n X.1 X.2.1 dX7_tellingFor_37 rfl (lv_at hl 2 rfl) ?_
          obtain ⟨g_10, g_11, hw⟩ := hw
          refine r_iald (n := 200) X h (hF.1 64 rfl).1 rfl (by decide) g_10 g_11 dX7_tellingFor_38 ?_
          obtain ⟨g_12, g_13, hwt, hwf⟩ := hw
          refine j_cmp_lt (tgt := 44) X g_12 g_13 dX7_tellingFor_39 (by decide) (fun c_14 => ?_) (fun c_14 => ?_)
          · have hw := hwt c_14
            exact lb_X7_tellingFor_44 X ih σ x1 x2 x3 _ _ _ hw h (lv_sub hl [0, 1, 2, 3] rfl)
          · have hw := hwf c_14
            exact lb_X7_tellingFor_42 X ih σ x1 x3 _ _ _ hw h (lv_sub hl [0, 1, 3] rfl)
theorem pd_X7_tellingFor : yX7_tellingFor.cls ≠ "java/lang/invoke/MethodHandle" ∧ yX7_tellingFor.cls ≠ "java/lang/invoke/VarHandle" ∧ (parseMethodDescriptor yX7_tellingFor.desc).map (fun d => d.parameters.length) = some 1 := by decide +kernel
def wp_X7_tellingFor (σ : St) (x1 : Int) (Q : Int → St → Prop) : Prop := ∃ n4, wp_X7_tellingFor_4 Q n4 σ x1 (-1) 0
set_option maxRecDepth 100000 in
set_option maxHeartbeats 4000000 in
theorem c_X7_tellingFor (l : Launch) (D : va_G) (ct : Nat → ClassId) (ad : Nat → Nat → Nat) (L : List (Nat × Nat)) (φ : Nat → Nat → Nat → Bool) (N0 : Nat) (σ : St) (x1 : Int) (Q : Int → St → Prop) (hw : wp_X7_tellingFor σ x1 Q) : Met l yX7_tellingFor (.code yX7_tellingFor cX7_tellingFor 4 (some .int) :: gw) ({ frames := 0, cells := 0, slots := 0, locals := 0 } : Room) (Pm D ct ad L φ N0 σ [.ref (ad 7 0), .int (iv x1)]) (Qi D ct ad L φ N0 Q) 0 0 (AA N0) := by
  refine m_of (by decide) (fun p e s m below meth c X hnm h => ?_)
  have hF := X.2.2.2.2.2.2.2.2.1
  have hl := lv_entry ([.ref (ad 7 0), .int (iv x1)]) (n := 4) (Nat.le_of_ble_eq_true rfl)
  rw [lg_entry_eq]
  generalize (lg_sl ([.ref (ad 7 0), .int (iv x1)]) ++ List.replicate (4 - (lg_sl ([.ref (ad 7 0), .int (iv x1)])).length) Slot.unset).toArray = ls at hl ⊢
  have hl : lv_has ls 4 [(0, .ref (ad 7 0)), (1, .int (iv x1))] := hl
  have h : Hs D ct ad L φ N0 s.heap σ s.heap [] := h
  unfold wp_X7_tellingFor at hw
  refine j_iconst X dX7_tellingFor_0 ?_
  refine lv_istore_n (lv' := [(2, .int (iv (-1))), (0, .ref (ad 7 0)), (1, .int (iv x1))]) X.1 X.2.1 dX7_tellingFor_1 rfl hl (by decide) rfl (fun ls hl => ?_)
  refine j_iconst X dX7_tellingFor_2 ?_
  refine lv_istore_n (lv' := [(3, .int (iv 0)), (2, .int (iv (-1))), (0, .ref (ad 7 0)), (1, .int (iv x1))]) X.1 X.2.1 dX7_tellingFor_3 rfl hl (by decide) rfl (fun ls hl => ?_)
  exact hw.elim (fun n4 hw => lb_X7_tellingFor_4 X n4 σ x1 (-1) 0 _ _ _ hw h (lv_sub hl [2, 3, 1, 0] rfl))
end
section
variable {p : Program} {l : Launch} {e : Env} {s : State} {m : MethodId} {args : Array Value} {below : List Frame} {meth : Method} {c : Code} {D : va_G} {ct : Nat → ClassId} {ad : Nat → Nat → Nat} {L : List (Nat × Nat)} {φ : Nat → Nat → Nat → Bool} {N0 : Nat}
variable {Q : Int → St → Prop}
theorem pd_X7_tell : yX7_tell.cls ≠ "java/lang/invoke/MethodHandle" ∧ yX7_tell.cls ≠ "java/lang/invoke/VarHandle" ∧ (parseMethodDescriptor yX7_tell.desc).map (fun d => d.parameters.length) = some 4 := by decide +kernel
def wp_X7_tell (σ : St) (x1 : Int) (x2 : Int) (x3 : Int) (x4 : Int) (Q : Int → St → Prop) : Prop := wp_X11_within σ x1 (σ 7 0 3) 3999 (fun r_2 σ_1 => inR r_2 ∧ (r_2 = 0 → Q 0 σ_1) ∧ (¬ r_2 = 0 → inR (σ_1 7 0 2) ∧ ((σ_1 7 0 2) < 200 → wp_X11_within σ_1 x2 0 9 (fun r_6 σ_5 => inR r_6 ∧ (r_6 = 0 → Q 0 σ_5) ∧ (¬ r_6 = 0 → wp_X11_within σ_5 x3 0 9 (fun r_9 σ_8 => inR r_9 ∧ (r_9 = 0 → Q 0 σ_8) ∧ (¬ r_9 = 0 → wp_X11_within σ_8 x4 0 9 (fun r_12 σ_11 => inR r_12 ∧ (¬ r_12 = 0 → 0 ≤ (σ_11 7 0 2) ∧ (σ_11 7 0 2) < 200 ∧ ∀ σ_16 : St, σ_16 = st σ_11 64 0 (Int.toNat (σ_11 7 0 2)) x1 → (0 ≤ (((σ_16 7 0 2) * 3) + 0) ∧ (((σ_16 7 0 2) * 3) + 0) < 600 ∧ ∀ σ_19 : St, σ_19 = st σ_16 65 0 (Int.toNat (((σ_16 7 0 2) * 3) + 0)) x2 → (0 ≤ (((σ_19 7 0 2) * 3) + 1) ∧ (((σ_19 7 0 2) * 3) + 1) < 600 ∧ ∀ σ_22 : St, σ_22 = st σ_19 65 0 (Int.toNat (((σ_19 7 0 2) * 3) + 1)) x3 → (0 ≤ (((σ_22 7 0 2) * 3) + 2) ∧ (((σ_22 7 0 2) * 3) + 2) < 600 ∧ ∀ σ_25 : St, σ_25 = st σ_22 65 0 (Int.toNat (((σ_22 7 0 2) * 3) + 2)) x4 → (∀ σ_26 : St, σ_26 = st σ_25 7 0 2 ((σ_25 7 0 2) + 1) → (wp_X7_tellingFor σ_26 (σ_26 7 0 3) (fun r_28 σ_27 => ∀ σ_29 : St, σ_29 = st σ_27 7 0 4 r_28 → (Q 1 σ_29)))))))) ∧ (r_12 = 0 → Q 0 σ_11))))))) ∧ (¬ (σ_1 7 0 2) < 200 → Q 0 σ_1)))
set_option maxRecDepth 100000 in
set_option maxHeartbeats 4000000 in
theorem c_X7_tell (l : Launch) (D : va_G) (ct : Nat → ClassId) (ad : Nat → Nat → Nat) (L : List (Nat × Nat)) (φ : Nat → Nat → Nat → Bool) (N0 : Nat) (σ : St) (x1 : Int) (x2 : Int) (x3 : Int) (x4 : Int) (Q : Int → St → Prop) (hw : wp_X7_tell σ x1 x2 x3 x4 Q) : Met l yX7_tell (.code yX7_tell cX7_tell 5 (some .boolean) :: gw) ({ frames := 1, cells := 0, slots := 0, locals := 23 } : Room) (Pm D ct ad L φ N0 σ [.ref (ad 7 0), .int (iv x1), .int (iv x2), .int (iv x3), .int (iv x4)]) (Qi D ct ad L φ N0 Q) 0 0 (AA N0) := by
  refine m_of (by decide) (fun p e s m below meth c X hnm h => ?_)
  have hF := X.2.2.2.2.2.2.2.2.1
  have hl := lv_entry ([.ref (ad 7 0), .int (iv x1), .int (iv x2), .int (iv x3), .int (iv x4)]) (n := 5) (Nat.le_of_ble_eq_true rfl)
  rw [lg_entry_eq]
  generalize (lg_sl ([.ref (ad 7 0), .int (iv x1), .int (iv x2), .int (iv x3), .int (iv x4)]) ++ List.replicate (5 - (lg_sl ([.ref (ad 7 0), .int (iv x1), .int (iv x2), .int (iv x3), .int (iv x4)])).length) Slot.unset).toArray = ls at hl ⊢
  have hl : lv_has ls 5 [(0, .ref (ad 7 0)), (1, .int (iv x1)), (2, .int (iv x2)), (3, .int (iv x3)), (4, .int (iv x4))] := hl
  have h : Hs D ct ad L φ N0 s.heap σ s.heap [] := h
  unfold wp_X7_tell at hw
  refine lv_iload_n X.1 X.2.1 dX7_tell_0 rfl (lv_at hl 1 rfl) ?_
  refine lv_aload_n X.1 X.2.1 dX7_tell_1 rfl (lv_at hl 0 rfl) ?_
  refine r_get (ci := 7) X inw_7 h (hF.1 7 rfl).1 rfl rfl 3 (by decide) kw_162 rfl dX7_tell_2 ?_
  refine j_sipush X dX7_tell_5 (by decide) ?_
  refine k_i h (r_SN (As := [.int (iv x1), .int (iv (σ 7 0 3)), .int (iv 3999)]) (rest := []) X h (c_X11_within l D ct ad L φ N0 σ x1 (σ 7 0 3) 3999 _ hw) rfl rfl ⟨Nat.le_of_ble_eq_true rfl, Nat.le_of_ble_eq_true rfl⟩ kw_555 kw_527 kw_120 kw_528 pd_X11_within rfl hl.1 rfl (Nat.le_of_ble_eq_true rfl) ⟨Nat.le_of_ble_eq_true rfl, Nat.le_of_ble_eq_true rfl⟩ dX7_tell_8) (fun r_2 σ_1 H locs hw h => ?_)
  obtain ⟨g_3, hwt, hwf⟩ := hw
  refine j_if_eq (tgt := 24) X g_3 dX7_tell_11 (by decide) (fun c_34 => ?_) (fun c_34 => ?_)
  · have hw := hwt c_34
    refine j_iconst X dX7_tell_24 ?_
    exact k_ir X rfl h hw dX7_tell_25
  · have hw := hwf c_34
    refine lv_aload_n X.1 X.2.1 dX7_tell_14 rfl (lv_at hl 0 rfl) ?_
    refine r_get (ci := 7) X inw_7 h (hF.1 7 rfl).1 rfl rfl 2 (by decide) kw_161 rfl dX7_tell_15 ?_
    refine j_sipush X dX7_tell_18 (by decide) ?_
    obtain ⟨g_4, hwt, hwf⟩ := hw
    refine j_cmp_lt (tgt := 26) X g_4 ⟨by decide, by decide⟩ dX7_tell_21 (by decide) (fun c_33 => ?_) (fun c_33 => ?_)
    · have hw := hwt c_33
      refine lv_iload_n X.1 X.2.1 dX7_tell_26 rfl (lv_at hl 2 rfl) ?_
      refine j_iconst X dX7_tell_27 ?_
      refine j_bipush X dX7_tell_28 (by decide) ?_
      refine k_i h (r_SN (As := [.int (iv x2), .int (iv 0), .int (iv 9)]) (rest := []) X h (c_X11_within l D ct ad L φ N0 σ_1 x2 0 9 _ hw) rfl rfl ⟨Nat.le_of_ble_eq_true rfl, Nat.le_of_ble_eq_true rfl⟩ kw_555 kw_527 kw_120 kw_528 pd_X11_within rfl hl.1 rfl (Nat.le_of_ble_eq_true rfl) ⟨Nat.le_of_ble_eq_true rfl, Nat.le_of_ble_eq_true rfl⟩ dX7_tell_30) (fun r_6 σ_5 H locs hw h => ?_)
      obtain ⟨g_7, hwt, hwf⟩ := hw
      refine j_if_eq (tgt := 57) X g_7 dX7_tell_33 (by decide) (fun c_32 => ?_) (fun c_32 => ?_)
      · have hw := hwt c_32
        refine j_iconst X dX7_tell_57 ?_
        exact k_ir X rfl h hw dX7_tell_58
      · have hw := hwf c_32
        refine lv_iload_n X.1 X.2.1 dX7_tell_36 rfl (lv_at hl 3 rfl) ?_
        refine j_iconst X dX7_tell_37 ?_
        refine j_bipush X dX7_tell_38 (by decide) ?_
        refine k_i h (r_SN (As := [.int (iv x3), .int (iv 0), .int (iv 9)]) (rest := []) X h (c_X11_within l D ct ad L φ N0 σ_5 x3 0 9 _ hw) rfl rfl ⟨Nat.le_of_ble_eq_true rfl, Nat.le_of_ble_eq_true rfl⟩ kw_555 kw_527 kw_120 kw_528 pd_X11_within rfl hl.1 rfl (Nat.le_of_ble_eq_true rfl) ⟨Nat.le_of_ble_eq_true rfl, Nat.le_of_ble_eq_true rfl⟩ dX7_tell_40) (fun r_9 σ_8 H locs hw h => ?_)
        obtain ⟨g_10, hwt, hwf⟩ := hw
        refine j_if_eq (tgt := 57) X g_10 dX7_tell_43 (by decide) (fun c_31 => ?_) (fun c_31 => ?_)
        · have hw := hwt c_31
          refine j_iconst X dX7_tell_57 ?_
          exact k_ir X rfl h hw dX7_tell_58
        · have hw := hwf c_31
          refine lv_iload X.1 X.2.1 dX7_tell_46 (lv_at hl 4 rfl) ?_
          refine j_iconst X dX7_tell_48 ?_
          refine j_bipush X dX7_tell_49 (by decide) ?_
          refine k_i h (r_SN (As := [.int (iv x4), .int (iv 0), .int (iv 9)]) (rest := []) X h (c_X11_within l D ct ad L φ N0 σ_8 x4 0 9 _ hw) rfl rfl ⟨Nat.le_of_ble_eq_true rfl, Nat.le_of_ble_eq_true rfl⟩ kw_555 kw_527 kw_120 kw_528 pd_X11_within rfl hl.1 rfl (Nat.le_of_ble_eq_true rfl) ⟨Nat.le_of_ble_eq_true rfl, Nat.le_of_ble_eq_true rfl⟩ dX7_tell_51) (fun r_12 σ_11 H locs hw h => ?_)
          obtain ⟨g_13, hwt, hwf⟩ := hw
          refine j_if_ne (tgt := 59) X g_13 dX7_tell_54 (by decide) (fun c_30 => ?_) (fun c_30 => ?_)
          · have hw := hwt c_30
            refine lv_aload_n X.1 X.2.1 dX7_tell_59 rfl (lv_at hl 0 rfl) ?_
            refine r_getR (ci := 7) X inw_7 h (hF.1 7 rfl).1 rfl rfl 0 (by decide) kw_159 rfl ((hF.1 7 rfl).2 0) dX7_tell_60 ?_
            refine lv_aload_n X.1 X.2.1 dX7_tell_63 rfl (lv_at hl 0 rfl) ?_
            refine r_get (ci := 7) X inw_7 h (hF.1 7 rfl).1 rfl rfl 2 (by decide) kw_161 rfl dX7_tell_64 ?_
            refine lv_iload_n X.1 X.2.1 dX7_tell_67 rfl (lv_at hl 1 rfl) ?_
            obtain ⟨g_14, g_15, hw⟩ := hw
            refine r_iast (n := 200) X h (hF.1 64 rfl).1 (fun _ => rfl) (by decide) g_14 g_15 rfl dX7_tell_68 (fun H locs h => ?_)
            obtain ⟨σ_16, eσ_16⟩ : ∃ z : St, z = st σ_11 64 0 (Int.toNat (σ_11 7 0 2)) x1 := ⟨_, rfl⟩
            rw [← eσ_16] at h
            have hw := hw σ_16 eσ_16
            refine lv_aload_n X.1 X.2.1 dX7_tell_69 rfl (lv_at hl 0 rfl) ?_
            refine r_getR (ci := 7) X inw_7 h (hF.1 7 rfl).1 rfl rfl 1 (by decide) kw_160 rfl ((hF.1 7 rfl).2 1) dX7_tell_70 ?_
            refine lv_aload_n X.1 X.2.1 dX7_tell_73 rfl (lv_at hl 0 rfl) ?_
            refine r_get (ci := 7) X inw_7 h (hF.1 7 rfl).1 rfl rfl 2 (by decide) kw_161 rfl dX7_tell_74 ?_
            refine j_iconst X dX7_tell_77 ?_
            refine j_imul X dX7_tell_78 ?_
            refine j_iconst X dX7_tell_79 ?_
            refine j_iadd X dX7_tell_80 ?_
            refine lv_iload_n X.1 X.2.1 dX7_tell_81 rfl (lv_at hl 2 rfl) ?_
            obtain ⟨g_17, g_18, hw⟩ := hw
            refine r_iast (n := 600) X h (hF.1 65 rfl).1 (fun _ => rfl) (by decide) g_17 g_18 rfl dX7_tell_82 (fun H locs h => ?_)
            obtain ⟨σ_19, eσ_19⟩ : ∃ z : St, z = st σ_16 65 0 (Int.toNat (((σ_16 7 0 2) * 3) + 0)) x2 := ⟨_, rfl⟩
            rw [← eσ_19] at h
            have hw := hw σ_19 eσ_19
            refine lv_aload_n X.1 X.2.1 dX7_tell_83 rfl (lv_at hl 0 rfl) ?_
            refine r_getR (ci := 7) X inw_7 h (hF.1 7 rfl).1 rfl rfl 1 (by decide) kw_160 rfl ((hF.1 7 rfl).2 1) dX7_tell_84 ?_
            refine lv_aload_n X.1 X.2.1 dX7_tell_87 rfl (lv_at hl 0 rfl) ?_
            refine r_get (ci := 7) X inw_7 h (hF.1 7 rfl).1 rfl rfl 2 (by decide) kw_161 rfl dX7_tell_88 ?_
            refine j_iconst X dX7_tell_91 ?_
            refine j_imul X dX7_tell_92 ?_
            refine j_iconst X dX7_tell_93 ?_
            refine j_iadd X dX7_tell_94 ?_
            refine lv_iload_n X.1 X.2.1 dX7_tell_95 rfl (lv_at hl 3 rfl) ?_
            obtain ⟨g_20, g_21, hw⟩ := hw
            refine r_iast (n := 600) X h (hF.1 65 rfl).1 (fun _ => rfl) (by decide) g_20 g_21 rfl dX7_tell_96 (fun H locs h => ?_)
            obtain ⟨σ_22, eσ_22⟩ : ∃ z : St, z = st σ_19 65 0 (Int.toNat (((σ_19 7 0 2) * 3) + 1)) x3 := ⟨_, rfl⟩
            rw [← eσ_22] at h
            have hw := hw σ_22 eσ_22
            refine lv_aload_n X.1 X.2.1 dX7_tell_97 rfl (lv_at hl 0 rfl) ?_
            refine r_getR (ci := 7) X inw_7 h (hF.1 7 rfl).1 rfl rfl 1 (by decide) kw_160 rfl ((hF.1 7 rfl).2 1) dX7_tell_98 ?_
            refine lv_aload_n X.1 X.2.1 dX7_tell_101 rfl (lv_at hl 0 rfl) ?_
            refine r_get (ci := 7) X inw_7 h (hF.1 7 rfl).1 rfl rfl 2 (by decide) kw_161 rfl dX7_tell_102 ?_
            refine j_iconst X dX7_tell_105 ?_
            refine j_imul X dX7_tell_106 ?_
            refine j_iconst X dX7_tell_107 ?_
            refine j_iadd X dX7_tell_108 ?_
            refine lv_iload X.1 X.2.1 dX7_tell_109 (lv_at hl 4 rfl) ?_
            obtain ⟨g_23, g_24, hw⟩ := hw
            refine r_iast (n := 600) X h (hF.1 65 rfl).1 (fun _ => rfl) (by decide) g_23 g_24 rfl dX7_tell_111 (fun H locs h => ?_)
            obtain ⟨σ_25, eσ_25⟩ : ∃ z : St, z = st σ_22 65 0 (Int.toNat (((σ_22 7 0 2) * 3) + 2)) x4 := ⟨_, rfl⟩
            rw [← eσ_25] at h
            have hw := hw σ_25 eσ_25
            refine lv_aload_n X.1 X.2.1 dX7_tell_112 rfl (lv_at hl 0 rfl) ?_
            refine lv_dup X.1 X.2.1 dX7_tell_113 rfl ?_
            refine r_get (ci := 7) X inw_7 h (hF.1 7 rfl).1 rfl rfl 2 (by decide) kw_161 rfl dX7_tell_114 ?_
            refine j_iconst X dX7_tell_117 ?_
            refine j_iadd X dX7_tell_118 ?_
            refine r_put (ci := 7) X inw_7 tyX7 tyX7_ok nmX7 h (hF.1 7 rfl).1 rfl rfl 2 (by decide) kw_161 rfl rfl rfl (Nat.le_of_ble_eq_true rfl) rfl rfl dX7_tell_119 (fun H locs h => ?_)
            obtain ⟨σ_26, eσ_26⟩ : ∃ z : St, z = st σ_25 7 0 2 ((σ_25 7 0 2) + 1) := ⟨_, rfl⟩
            rw [← eσ_26] at h
            have hw := hw σ_26 eσ_26
            refine lv_aload_n X.1 X.2.1 dX7_tell_122 rfl (lv_at hl 0 rfl) ?_
            refine lv_aload_n X.1 X.2.1 dX7_tell_123 rfl (lv_at hl 0 rfl) ?_
            refine lv_aload_n X.1 X.2.1 dX7_tell_124 rfl (lv_at hl 0 rfl) ?_
            refine r_get (ci := 7) X inw_7 h (hF.1 7 rfl).1 rfl rfl 3 (by decide) kw_162 rfl dX7_tell_125 ?_
            refine k_i h (r_V (C := RX7) (ci := 7) (As := [.int (iv (σ_26 7 0 3))]) (rest := [.ref (ad 7 0)]) X h (c_X7_tellingFor l D ct ad L φ N0 σ_26 (σ_26 7 0 3) _ hw) rfl rfl ⟨Nat.le_of_ble_eq_true rfl, Nat.le_of_ble_eq_true rfl⟩ kw_556 kw_558 kw_0 kw_121 kw_559 ⟨rfl, pd_X7_tellingFor⟩ (hF.1 7 rfl).1 rfl rfl rfl hl.1 rfl (Nat.le_of_ble_eq_true rfl) ⟨Nat.le_of_ble_eq_true rfl, Nat.le_of_ble_eq_true rfl⟩ dX7_tell_128) (fun r_28 σ_27 H locs hw h => ?_)
            refine r_put (ci := 7) X inw_7 tyX7 tyX7_ok nmX7 h (hF.1 7 rfl).1 rfl rfl 4 (by decide) kw_166 rfl rfl rfl (Nat.le_of_ble_eq_true rfl) rfl rfl dX7_tell_131 (fun H locs h => ?_)
            obtain ⟨σ_29, eσ_29⟩ : ∃ z : St, z = st σ_27 7 0 4 r_28 := ⟨_, rfl⟩
            rw [← eσ_29] at h
            have hw := hw σ_29 eσ_29
            refine j_iconst X dX7_tell_134 ?_
            exact k_ir X rfl h hw dX7_tell_135
          · have hw := hwf c_30
            refine j_iconst X dX7_tell_57 ?_
            exact k_ir X rfl h hw dX7_tell_58
    · have hw := hwf c_33
      refine j_iconst X dX7_tell_24 ?_
      exact k_ir X rfl h hw dX7_tell_25
end
section
variable {p : Program} {l : Launch} {e : Env} {s : State} {m : MethodId} {args : Array Value} {below : List Frame} {meth : Method} {c : Code} {D : va_G} {ct : Nat → ClassId} {ad : Nat → Nat → Nat} {L : List (Nat × Nat)} {φ : Nat → Nat → Nat → Bool} {N0 : Nat}
variable {Q : St → Prop}
theorem pd_X7_nextDay : yX7_nextDay.cls ≠ "java/lang/invoke/MethodHandle" ∧ yX7_nextDay.cls ≠ "java/lang/invoke/VarHandle" ∧ (parseMethodDescriptor yX7_nextDay.desc).map (fun d => d.parameters.length) = some 0 := by decide +kernel
def wp_X7_nextDay (σ : St) (Q : St → Prop) : Prop := ∀ σ_1 : St, σ_1 = st σ 7 0 3 ((σ 7 0 3) + 1) → (wp_X7_tellingFor σ_1 (σ_1 7 0 3) (fun r_3 σ_2 => ∀ σ_4 : St, σ_4 = st σ_2 7 0 4 r_3 → (Q σ_4)))
set_option maxRecDepth 100000 in
set_option maxHeartbeats 4000000 in
theorem c_X7_nextDay (l : Launch) (D : va_G) (ct : Nat → ClassId) (ad : Nat → Nat → Nat) (L : List (Nat × Nat)) (φ : Nat → Nat → Nat → Bool) (N0 : Nat) (σ : St) (Q : St → Prop) (hw : wp_X7_nextDay σ Q) : Met l yX7_nextDay (.code yX7_nextDay cX7_nextDay 1 none :: gw) ({ frames := 1, cells := 0, slots := 0, locals := 23 } : Room) (Pm D ct ad L φ N0 σ [.ref (ad 7 0)]) (Qv D ct ad L φ N0 Q) 0 0 (AA N0) := by
  refine m_of (by decide) (fun p e s m below meth c X hnm h => ?_)
  have hF := X.2.2.2.2.2.2.2.2.1
  have hl := lv_entry ([.ref (ad 7 0)]) (n := 1) (Nat.le_of_ble_eq_true rfl)
  rw [lg_entry_eq]
  generalize (lg_sl ([.ref (ad 7 0)]) ++ List.replicate (1 - (lg_sl ([.ref (ad 7 0)])).length) Slot.unset).toArray = ls at hl ⊢
  have hl : lv_has ls 1 [(0, .ref (ad 7 0))] := hl
  have h : Hs D ct ad L φ N0 s.heap σ s.heap [] := h
  unfold wp_X7_nextDay at hw
  refine lv_aload_n X.1 X.2.1 dX7_nextDay_0 rfl (lv_at hl 0 rfl) ?_
  refine lv_dup X.1 X.2.1 dX7_nextDay_1 rfl ?_
  refine r_get (ci := 7) X inw_7 h (hF.1 7 rfl).1 rfl rfl 3 (by decide) kw_162 rfl dX7_nextDay_2 ?_
  refine j_iconst X dX7_nextDay_5 ?_
  refine j_iadd X dX7_nextDay_6 ?_
  refine r_put (ci := 7) X inw_7 tyX7 tyX7_ok nmX7 h (hF.1 7 rfl).1 rfl rfl 3 (by decide) kw_162 rfl rfl rfl (Nat.le_of_ble_eq_true rfl) rfl rfl dX7_nextDay_7 (fun H locs h => ?_)
  obtain ⟨σ_1, eσ_1⟩ : ∃ z : St, z = st σ 7 0 3 ((σ 7 0 3) + 1) := ⟨_, rfl⟩
  rw [← eσ_1] at h
  have hw := hw σ_1 eσ_1
  refine lv_aload_n X.1 X.2.1 dX7_nextDay_10 rfl (lv_at hl 0 rfl) ?_
  refine lv_aload_n X.1 X.2.1 dX7_nextDay_11 rfl (lv_at hl 0 rfl) ?_
  refine lv_aload_n X.1 X.2.1 dX7_nextDay_12 rfl (lv_at hl 0 rfl) ?_
  refine r_get (ci := 7) X inw_7 h (hF.1 7 rfl).1 rfl rfl 3 (by decide) kw_162 rfl dX7_nextDay_13 ?_
  refine k_i h (r_V (C := RX7) (ci := 7) (As := [.int (iv (σ_1 7 0 3))]) (rest := [.ref (ad 7 0)]) X h (c_X7_tellingFor l D ct ad L φ N0 σ_1 (σ_1 7 0 3) _ hw) rfl rfl ⟨Nat.le_of_ble_eq_true rfl, Nat.le_of_ble_eq_true rfl⟩ kw_556 kw_558 kw_0 kw_121 kw_559 ⟨rfl, pd_X7_tellingFor⟩ (hF.1 7 rfl).1 rfl rfl rfl hl.1 rfl (Nat.le_of_ble_eq_true rfl) ⟨Nat.le_of_ble_eq_true rfl, Nat.le_of_ble_eq_true rfl⟩ dX7_nextDay_16) (fun r_3 σ_2 H locs hw h => ?_)
  refine r_put (ci := 7) X inw_7 tyX7 tyX7_ok nmX7 h (hF.1 7 rfl).1 rfl rfl 4 (by decide) kw_166 rfl rfl rfl (Nat.le_of_ble_eq_true rfl) rfl rfl dX7_nextDay_19 (fun H locs h => ?_)
  obtain ⟨σ_4, eσ_4⟩ : ∃ z : St, z = st σ_2 7 0 4 r_3 := ⟨_, rfl⟩
  rw [← eσ_4] at h
  have hw := hw σ_4 eσ_4
  exact k_vr X h hw dX7_nextDay_22
end
section
variable {p : Program} {l : Launch} {e : Env} {s : State} {m : MethodId} {args : Array Value} {below : List Frame} {meth : Method} {c : Code} {D : va_G} {ct : Nat → ClassId} {ad : Nat → Nat → Nat} {L : List (Nat × Nat)} {φ : Nat → Nat → Nat → Bool} {N0 : Nat}
variable {Q : Int → St → Prop}
theorem pd_X7_season : yX7_season.cls ≠ "java/lang/invoke/MethodHandle" ∧ yX7_season.cls ≠ "java/lang/invoke/VarHandle" ∧ (parseMethodDescriptor yX7_season.desc).map (fun d => d.parameters.length) = some 0 := by decide +kernel
def wp_X7_season (σ : St) (Q : Int → St → Prop) : Prop := inR (σ 7 0 3) ∧ inR (Int.tmod (σ 7 0 3) 100) ∧ Q (Int.tdiv (Int.tmod (σ 7 0 3) 100) 25) σ
set_option maxRecDepth 100000 in
set_option maxHeartbeats 4000000 in
theorem c_X7_season (l : Launch) (D : va_G) (ct : Nat → ClassId) (ad : Nat → Nat → Nat) (L : List (Nat × Nat)) (φ : Nat → Nat → Nat → Bool) (N0 : Nat) (σ : St) (Q : Int → St → Prop) (hw : wp_X7_season σ Q) : Met l yX7_season (.code yX7_season cX7_season 1 (some .int) :: gw) ({ frames := 0, cells := 0, slots := 0, locals := 0 } : Room) (Pm D ct ad L φ N0 σ [.ref (ad 7 0)]) (Qi D ct ad L φ N0 Q) 0 0 (AA N0) := by
  refine m_of (by decide) (fun p e s m below meth c X hnm h => ?_)
  have hF := X.2.2.2.2.2.2.2.2.1
  have hl := lv_entry ([.ref (ad 7 0)]) (n := 1) (Nat.le_of_ble_eq_true rfl)
  rw [lg_entry_eq]
  generalize (lg_sl ([.ref (ad 7 0)]) ++ List.replicate (1 - (lg_sl ([.ref (ad 7 0)])).length) Slot.unset).toArray = ls at hl ⊢
  have hl : lv_has ls 1 [(0, .ref (ad 7 0))] := hl
  have h : Hs D ct ad L φ N0 s.heap σ s.heap [] := h
  unfold wp_X7_season at hw
  refine lv_aload_n X.1 X.2.1 dX7_season_0 rfl (lv_at hl 0 rfl) ?_
  refine r_get (ci := 7) X inw_7 h (hF.1 7 rfl).1 rfl rfl 3 (by decide) kw_162 rfl dX7_season_1 ?_
  refine j_bipush X dX7_season_4 (by decide) ?_
  obtain ⟨g_1, hw⟩ := hw
  refine j_irem X g_1 ⟨by decide, by decide⟩ (by decide) (by decide) dX7_season_6 ?_
  refine j_bipush X dX7_season_7 (by decide) ?_
  obtain ⟨g_2, hw⟩ := hw
  refine j_idiv X g_2 ⟨by decide, by decide⟩ (by decide) (by decide) dX7_season_9 ?_
  exact k_ir X rfl h hw dX7_season_10
end
section
variable {p : Program} {l : Launch} {e : Env} {s : State} {m : MethodId} {args : Array Value} {below : List Frame} {meth : Method} {c : Code} {D : va_G} {ct : Nat → ClassId} {ad : Nat → Nat → Nat} {L : List (Nat × Nat)} {φ : Nat → Nat → Nat → Bool} {N0 : Nat}
variable {Q : Int → St → Prop}
theorem pd_X9_isBlank : yX9_isBlank.cls ≠ "java/lang/invoke/MethodHandle" ∧ yX9_isBlank.cls ≠ "java/lang/invoke/VarHandle" ∧ (parseMethodDescriptor yX9_isBlank.desc).map (fun d => d.parameters.length) = some 1 := by decide +kernel
def wp_X9_isBlank (σ : St) (x0 : Int) (Q : Int → St → Prop) : Prop := inR x0 ∧ (x0 = 32 → Q 1 σ) ∧ (¬ x0 = 32 → inR x0 ∧ (¬ x0 = 10 → Q 0 σ) ∧ (x0 = 10 → Q 1 σ))
set_option maxRecDepth 100000 in
set_option maxHeartbeats 4000000 in
theorem c_X9_isBlank (l : Launch) (D : va_G) (ct : Nat → ClassId) (ad : Nat → Nat → Nat) (L : List (Nat × Nat)) (φ : Nat → Nat → Nat → Bool) (N0 : Nat) (σ : St) (x0 : Int) (Q : Int → St → Prop) (hw : wp_X9_isBlank σ x0 Q) : Met l yX9_isBlank (.code yX9_isBlank cX9_isBlank 1 (some .boolean) :: gw) ({ frames := 0, cells := 0, slots := 0, locals := 0 } : Room) (Pm D ct ad L φ N0 σ [.int (iv x0)]) (Qi D ct ad L φ N0 Q) 0 0 (AA N0) := by
  refine m_of (by decide) (fun p e s m below meth c X hnm h => ?_)
  have hF := X.2.2.2.2.2.2.2.2.1
  have hl := lv_entry ([.int (iv x0)]) (n := 1) (Nat.le_of_ble_eq_true rfl)
  rw [lg_entry_eq]
  generalize (lg_sl ([.int (iv x0)]) ++ List.replicate (1 - (lg_sl ([.int (iv x0)])).length) Slot.unset).toArray = ls at hl ⊢
  have hl : lv_has ls 1 [(0, .int (iv x0))] := hl
  have h : Hs D ct ad L φ N0 s.heap σ s.heap [] := h
  unfold wp_X9_isBlank at hw
  refine lv_iload_n X.1 X.2.1 dX9_isBlank_0 rfl (lv_at hl 0 rfl) ?_
  refine j_bipush X dX9_isBlank_1 (by decide) ?_
  obtain ⟨g_1, hwt, hwf⟩ := hw
  refine j_cmp_eq (tgt := 12) X g_1 ⟨by decide, by decide⟩ dX9_isBlank_3 (by decide) (fun c_4 => ?_) (fun c_4 => ?_)
  · have hw := hwt c_4
    refine j_iconst X dX9_isBlank_12 ?_
    refine lv_goto (tgt := 17) X.1 X.2.1 dX9_isBlank_13 (by decide) ?_
    exact k_ir X rfl h hw dX9_isBlank_17
  · have hw := hwf c_4
    refine lv_iload_n X.1 X.2.1 dX9_isBlank_6 rfl (lv_at hl 0 rfl) ?_
    refine j_bipush X dX9_isBlank_7 (by decide) ?_
    obtain ⟨g_2, hwt, hwf⟩ := hw
    refine j_cmp_ne (tgt := 16) X g_2 ⟨by decide, by decide⟩ dX9_isBlank_9 (by decide) (fun c_3 => ?_) (fun c_3 => ?_)
    · have hw := hwt c_3
      refine j_iconst X dX9_isBlank_16 ?_
      exact k_ir X rfl h hw dX9_isBlank_17
    · have hw := hwf c_3
      refine j_iconst X dX9_isBlank_12 ?_
      refine lv_goto (tgt := 17) X.1 X.2.1 dX9_isBlank_13 (by decide) ?_
      exact k_ir X rfl h hw dX9_isBlank_17
end
section
variable {p : Program} {l : Launch} {e : Env} {s : State} {m : MethodId} {args : Array Value} {below : List Frame} {meth : Method} {c : Code} {D : va_G} {ct : Nat → ClassId} {ad : Nat → Nat → Nat} {L : List (Nat × Nat)} {φ : Nat → Nat → Nat → Bool} {N0 : Nat}
variable {Q : Int → St → Prop}
theorem pd_X9_isLetter : yX9_isLetter.cls ≠ "java/lang/invoke/MethodHandle" ∧ yX9_isLetter.cls ≠ "java/lang/invoke/VarHandle" ∧ (parseMethodDescriptor yX9_isLetter.desc).map (fun d => d.parameters.length) = some 1 := by decide +kernel
def wp_X9_isLetter (σ : St) (x0 : Int) (Q : Int → St → Prop) : Prop := wp_X11_within σ x0 97 122 (fun r_2 σ_1 => (r_2 = 0 ∨ r_2 = 1) ∧ Q r_2 σ_1)
set_option maxRecDepth 100000 in
set_option maxHeartbeats 4000000 in
theorem c_X9_isLetter (l : Launch) (D : va_G) (ct : Nat → ClassId) (ad : Nat → Nat → Nat) (L : List (Nat × Nat)) (φ : Nat → Nat → Nat → Bool) (N0 : Nat) (σ : St) (x0 : Int) (Q : Int → St → Prop) (hw : wp_X9_isLetter σ x0 Q) : Met l yX9_isLetter (.code yX9_isLetter cX9_isLetter 1 (some .boolean) :: gw) ({ frames := 1, cells := 0, slots := 0, locals := 22 } : Room) (Pm D ct ad L φ N0 σ [.int (iv x0)]) (Qi D ct ad L φ N0 Q) 0 0 (AA N0) := by
  refine m_of (by decide) (fun p e s m below meth c X hnm h => ?_)
  have hF := X.2.2.2.2.2.2.2.2.1
  have hl := lv_entry ([.int (iv x0)]) (n := 1) (Nat.le_of_ble_eq_true rfl)
  rw [lg_entry_eq]
  generalize (lg_sl ([.int (iv x0)]) ++ List.replicate (1 - (lg_sl ([.int (iv x0)])).length) Slot.unset).toArray = ls at hl ⊢
  have hl : lv_has ls 1 [(0, .int (iv x0))] := hl
  have h : Hs D ct ad L φ N0 s.heap σ s.heap [] := h
  unfold wp_X9_isLetter at hw
  refine lv_iload_n X.1 X.2.1 dX9_isLetter_0 rfl (lv_at hl 0 rfl) ?_
  refine j_bipush X dX9_isLetter_1 (by decide) ?_
  refine j_bipush X dX9_isLetter_3 (by decide) ?_
  refine k_i h (r_SN (As := [.int (iv x0), .int (iv 97), .int (iv 122)]) (rest := []) X h (c_X11_within l D ct ad L φ N0 σ x0 97 122 _ hw) rfl rfl ⟨Nat.le_of_ble_eq_true rfl, Nat.le_of_ble_eq_true rfl⟩ kw_971 kw_527 kw_120 kw_528 pd_X11_within rfl hl.1 rfl (Nat.le_of_ble_eq_true rfl) ⟨Nat.le_of_ble_eq_true rfl, Nat.le_of_ble_eq_true rfl⟩ dX9_isLetter_5) (fun r_2 σ_1 H locs hw h => ?_)
  obtain ⟨g_3, hw⟩ := hw
  exact k_ir X (nb_n g_3) h hw dX9_isLetter_8
end
section
variable {p : Program} {l : Launch} {e : Env} {s : State} {m : MethodId} {args : Array Value} {below : List Frame} {meth : Method} {c : Code} {D : va_G} {ct : Nat → ClassId} {ad : Nat → Nat → Nat} {L : List (Nat × Nat)} {φ : Nat → Nat → Nat → Bool} {N0 : Nat}
variable {Q : Int → St → Prop}
def wp_X9_behindLetters_2 (Q : Int → St → Prop) : Nat → St → Int → Prop
  | 0, _, _ => False
  | n + 1, σ, x2 => inR x2 ∧ inR (σ 9 0 1) ∧ ((σ 9 0 1) ≤ x2 → Q x2 σ) ∧ (¬ (σ 9 0 1) ≤ x2 → 0 ≤ x2 ∧ x2 < 300 ∧ wp_X9_isLetter σ (σ 76 0 (Int.toNat x2)) (fun r_6 σ_5 => inR r_6 ∧ (r_6 = 0 → Q x2 σ_5) ∧ (¬ r_6 = 0 → wp_X9_behindLetters_2 Q n σ_5 (x2 + 1))))
set_option maxRecDepth 100000 in
set_option maxHeartbeats 4000000 in
theorem lb_X9_behindLetters_2 (X : Cx p s m meth c args cX9_behindLetters 3 (some .int) RX9 D ct L φ N0) : ∀ (n : Nat) (σ : St) (x2 : Int) (H : Heap) (locs : List Loc) (ls : Array Slot), wp_X9_behindLetters_2 Q n σ x2 → Hs D ct ad L φ N0 s.heap σ H locs → lv_has ls 3 [(0, .ref (ad 9 0)), (2, .int (iv x2))] → W p l e ({ frames := 2, cells := 0, slots := 0, locals := 42 } : Room) s m args below meth c H locs 0 0 (MQ below (Qi D ct ad L φ N0 Q) args s 0 0 (AA N0)) (F0 m 2 ls []) := by
  have hF := X.2.2.2.2.2.2.2.2.1
  intro n
  induction n with
  | zero => intro σ x2 H locs ls hw; exact hw.elim
  | succ n ih =>
    intro σ x2 H locs ls hw h hl
    unfold wp_X9_behindLetters_2 at hw
    refine lv_iload_n X.1 X.2.1 dX9_behindLetters_2 rfl (lv_at hl 1 rfl) ?_
    refine lv_aload_n X.1 X.2.1 dX9_behindLetters_3 rfl (lv_at hl 0 rfl) ?_
    refine r_get (ci := 9) X inw_9 h (hF.1 9 rfl).1 rfl rfl 1 (by decide) kw_257 rfl dX9_behindLetters_4 ?_
    obtain ⟨g_1, g_2, hwt, hwf⟩ := hw
    refine j_cmp_ge (tgt := 28) X g_1 g_2 dX9_behindLetters_7 (by decide) (fun c_9 => ?_) (fun c_9 => ?_)
    · have hw := hwt c_9
      refine lv_iload_n X.1 X.2.1 dX9_behindLetters_28 rfl (lv_at hl 1 rfl) ?_
      exact k_ir X rfl h hw dX9_behindLetters_29
    · have hw := hwf c_9
      refine lv_aload_n X.1 X.2.1 dX9_behindLetters_10 rfl (lv_at hl 0 rfl) ?_
      refine r_getR (ci := 9) X inw_9 h (hF.1 9 rfl).1 rfl rfl 0 (by decide) kw_256 rfl ((hF.1 9 rfl).2 0) dX9_behindLetters_11 ?_
      refine lv_iload_n X.1 X.2.1 dX9_behindLetters_14 rfl (lv_at hl 1 rfl) ?_
      obtain ⟨g_3, g_4, hw⟩ := hw
      refine r_iald (n := 300) X h (hF.1 76 rfl).1 rfl (by decide) g_3 g_4 dX9_behindLetters_15 ?_
      refine k_i h (r_S (As := [.int (iv (σ 76 0 (Int.toNat x2)))]) (rest := []) X h (c_X9_isLetter l D ct ad L φ N0 σ (σ 76 0 (Int.toNat x2)) _ hw) rfl rfl ⟨Nat.le_of_ble_eq_true rfl, Nat.le_of_ble_eq_true rfl⟩ kw_968 kw_969 kw_124 kw_970 pd_X9_isLetter rfl hl.1 rfl (Nat.le_of_ble_eq_true rfl) ⟨Nat.le_of_ble_eq_true rfl, Nat.le_of_ble_eq_true rfl⟩ dX9_behindLetters_16) (fun r_6 σ_5 H locs hw h => ?_)
      obtain ⟨g_7, hwt, hwf⟩ := hw
      refine j_if_eq (tgt := 28) X g_7 dX9_behindLetters_19 (by decide) (fun c_8 => ?_) (fun c_8 => ?_)
      · have hw := hwt c_8
        refine lv_iload_n X.1 X.2.1 dX9_behindLetters_28 rfl (lv_at hl 1 rfl) ?_
        exact k_ir X rfl h hw dX9_behindLetters_29
      · have hw := hwf c_8
        refine j_iinc (kk9 := 1) (lv' := [(2, .int (iv (x2 + 1))), (0, .ref (ad 9 0))]) X dX9_behindLetters_22 hl rfl (by decide) rfl (fun ls hl => ?_)
        refine lv_goto (tgt := 2) X.1 X.2.1 dX9_behindLetters_25 (by decide) ?_
        exact ih σ_5 (x2 + 1) _ _ _ hw h (lv_sub hl [1, 0] rfl)
theorem pd_X9_behindLetters : yX9_behindLetters.cls ≠ "java/lang/invoke/MethodHandle" ∧ yX9_behindLetters.cls ≠ "java/lang/invoke/VarHandle" ∧ (parseMethodDescriptor yX9_behindLetters.desc).map (fun d => d.parameters.length) = some 1 := by decide +kernel
def wp_X9_behindLetters (σ : St) (x1 : Int) (Q : Int → St → Prop) : Prop := ∃ n2, wp_X9_behindLetters_2 Q n2 σ x1
set_option maxRecDepth 100000 in
set_option maxHeartbeats 4000000 in
theorem c_X9_behindLetters (l : Launch) (D : va_G) (ct : Nat → ClassId) (ad : Nat → Nat → Nat) (L : List (Nat × Nat)) (φ : Nat → Nat → Nat → Bool) (N0 : Nat) (σ : St) (x1 : Int) (Q : Int → St → Prop) (hw : wp_X9_behindLetters σ x1 Q) : Met l yX9_behindLetters (.code yX9_behindLetters cX9_behindLetters 3 (some .int) :: gw) ({ frames := 2, cells := 0, slots := 0, locals := 42 } : Room) (Pm D ct ad L φ N0 σ [.ref (ad 9 0), .int (iv x1)]) (Qi D ct ad L φ N0 Q) 0 0 (AA N0) := by
  refine m_of (by decide) (fun p e s m below meth c X hnm h => ?_)
  have hF := X.2.2.2.2.2.2.2.2.1
  have hl := lv_entry ([.ref (ad 9 0), .int (iv x1)]) (n := 3) (Nat.le_of_ble_eq_true rfl)
  rw [lg_entry_eq]
  generalize (lg_sl ([.ref (ad 9 0), .int (iv x1)]) ++ List.replicate (3 - (lg_sl ([.ref (ad 9 0), .int (iv x1)])).length) Slot.unset).toArray = ls at hl ⊢
  have hl : lv_has ls 3 [(0, .ref (ad 9 0)), (1, .int (iv x1))] := hl
  have h : Hs D ct ad L φ N0 s.heap σ s.heap [] := h
  unfold wp_X9_behindLetters at hw
  refine lv_iload_n X.1 X.2.1 dX9_behindLetters_0 rfl (lv_at hl 1 rfl) ?_
  refine lv_istore_n (lv' := [(2, .int (iv x1)), (0, .ref (ad 9 0)), (1, .int (iv x1))]) X.1 X.2.1 dX9_behindLetters_1 rfl hl (by decide) rfl (fun ls hl => ?_)
  exact hw.elim (fun n2 hw => lb_X9_behindLetters_2 X n2 σ x1 _ _ _ hw h (lv_sub hl [1, 0] rfl))
end
section
variable {p : Program} {l : Launch} {e : Env} {s : State} {m : MethodId} {args : Array Value} {below : List Frame} {meth : Method} {c : Code} {D : va_G} {ct : Nat → ClassId} {ad : Nat → Nat → Nat} {L : List (Nat × Nat)} {φ : Nat → Nat → Nat → Bool} {N0 : Nat}
variable {Q : Int → St → Prop}
theorem pd_X9_isDigit : yX9_isDigit.cls ≠ "java/lang/invoke/MethodHandle" ∧ yX9_isDigit.cls ≠ "java/lang/invoke/VarHandle" ∧ (parseMethodDescriptor yX9_isDigit.desc).map (fun d => d.parameters.length) = some 1 := by decide +kernel
def wp_X9_isDigit (σ : St) (x0 : Int) (Q : Int → St → Prop) : Prop := wp_X11_within σ x0 48 57 (fun r_2 σ_1 => (r_2 = 0 ∨ r_2 = 1) ∧ Q r_2 σ_1)
set_option maxRecDepth 100000 in
set_option maxHeartbeats 4000000 in
theorem c_X9_isDigit (l : Launch) (D : va_G) (ct : Nat → ClassId) (ad : Nat → Nat → Nat) (L : List (Nat × Nat)) (φ : Nat → Nat → Nat → Bool) (N0 : Nat) (σ : St) (x0 : Int) (Q : Int → St → Prop) (hw : wp_X9_isDigit σ x0 Q) : Met l yX9_isDigit (.code yX9_isDigit cX9_isDigit 1 (some .boolean) :: gw) ({ frames := 1, cells := 0, slots := 0, locals := 22 } : Room) (Pm D ct ad L φ N0 σ [.int (iv x0)]) (Qi D ct ad L φ N0 Q) 0 0 (AA N0) := by
  refine m_of (by decide) (fun p e s m below meth c X hnm h => ?_)
  have hF := X.2.2.2.2.2.2.2.2.1
  have hl := lv_entry ([.int (iv x0)]) (n := 1) (Nat.le_of_ble_eq_true rfl)
  rw [lg_entry_eq]
  generalize (lg_sl ([.int (iv x0)]) ++ List.replicate (1 - (lg_sl ([.int (iv x0)])).length) Slot.unset).toArray = ls at hl ⊢
  have hl : lv_has ls 1 [(0, .int (iv x0))] := hl
  have h : Hs D ct ad L φ N0 s.heap σ s.heap [] := h
  unfold wp_X9_isDigit at hw
  refine lv_iload_n X.1 X.2.1 dX9_isDigit_0 rfl (lv_at hl 0 rfl) ?_
  refine j_bipush X dX9_isDigit_1 (by decide) ?_
  refine j_bipush X dX9_isDigit_3 (by decide) ?_
  refine k_i h (r_SN (As := [.int (iv x0), .int (iv 48), .int (iv 57)]) (rest := []) X h (c_X11_within l D ct ad L φ N0 σ x0 48 57 _ hw) rfl rfl ⟨Nat.le_of_ble_eq_true rfl, Nat.le_of_ble_eq_true rfl⟩ kw_971 kw_527 kw_120 kw_528 pd_X11_within rfl hl.1 rfl (Nat.le_of_ble_eq_true rfl) ⟨Nat.le_of_ble_eq_true rfl, Nat.le_of_ble_eq_true rfl⟩ dX9_isDigit_5) (fun r_2 σ_1 H locs hw h => ?_)
  obtain ⟨g_3, hw⟩ := hw
  exact k_ir X (nb_n g_3) h hw dX9_isDigit_8
end
section
variable {p : Program} {l : Launch} {e : Env} {s : State} {m : MethodId} {args : Array Value} {below : List Frame} {meth : Method} {c : Code} {D : va_G} {ct : Nat → ClassId} {ad : Nat → Nat → Nat} {L : List (Nat × Nat)} {φ : Nat → Nat → Nat → Bool} {N0 : Nat}
variable {Q : Int → St → Prop}
def wp_X9_behindDigits_2 (Q : Int → St → Prop) : Nat → St → Int → Prop
  | 0, _, _ => False
  | n + 1, σ, x2 => inR x2 ∧ inR (σ 9 0 1) ∧ ((σ 9 0 1) ≤ x2 → Q x2 σ) ∧ (¬ (σ 9 0 1) ≤ x2 → 0 ≤ x2 ∧ x2 < 300 ∧ wp_X9_isDigit σ (σ 76 0 (Int.toNat x2)) (fun r_6 σ_5 => inR r_6 ∧ (r_6 = 0 → Q x2 σ_5) ∧ (¬ r_6 = 0 → wp_X9_behindDigits_2 Q n σ_5 (x2 + 1))))
set_option maxRecDepth 100000 in
set_option maxHeartbeats 4000000 in
theorem lb_X9_behindDigits_2 (X : Cx p s m meth c args cX9_behindDigits 3 (some .int) RX9 D ct L φ N0) : ∀ (n : Nat) (σ : St) (x2 : Int) (H : Heap) (locs : List Loc) (ls : Array Slot), wp_X9_behindDigits_2 Q n σ x2 → Hs D ct ad L φ N0 s.heap σ H locs → lv_has ls 3 [(0, .ref (ad 9 0)), (2, .int (iv x2))] → W p l e ({ frames := 2, cells := 0, slots := 0, locals := 42 } : Room) s m args below meth c H locs 0 0 (MQ below (Qi D ct ad L φ N0 Q) args s 0 0 (AA N0)) (F0 m 2 ls []) := by
  have hF := X.2.2.2.2.2.2.2.2.1
  intro n
  induction n with
  | zero => intro σ x2 H locs ls hw; exact hw.elim
  | succ n ih =>
    intro σ x2 H locs ls hw h hl
    unfold wp_X9_behindDigits_2 at hw
    refine lv_iload_n X.1 X.2.1 dX9_behindDigits_2 rfl (lv_at hl 1 rfl) ?_
    refine lv_aload_n X.1 X.2.1 dX9_behindDigits_3 rfl (lv_at hl 0 rfl) ?_
    refine r_get (ci := 9) X inw_9 h (hF.1 9 rfl).1 rfl rfl 1 (by decide) kw_257 rfl dX9_behindDigits_4 ?_
    obtain ⟨g_1, g_2, hwt, hwf⟩ := hw
    refine j_cmp_ge (tgt := 28) X g_1 g_2 dX9_behindDigits_7 (by decide) (fun c_9 => ?_) (fun c_9 => ?_)
    · have hw := hwt c_9
      refine lv_iload_n X.1 X.2.1 dX9_behindDigits_28 rfl (lv_at hl 1 rfl) ?_
      exact k_ir X rfl h hw dX9_behindDigits_29
    · have hw := hwf c_9
      refine lv_aload_n X.1 X.2.1 dX9_behindDigits_10 rfl (lv_at hl 0 rfl) ?_
      refine r_getR (ci := 9) X inw_9 h (hF.1 9 rfl).1 rfl rfl 0 (by decide) kw_256 rfl ((hF.1 9 rfl).2 0) dX9_behindDigits_11 ?_
      refine lv_iload_n X.1 X.2.1 dX9_behindDigits_14 rfl (lv_at hl 1 rfl) ?_
      obtain ⟨g_3, g_4, hw⟩ := hw
      refine r_iald (n := 300) X h (hF.1 76 rfl).1 rfl (by decide) g_3 g_4 dX9_behindDigits_15 ?_
      refine k_i h (r_S (As := [.int (iv (σ 76 0 (Int.toNat x2)))]) (rest := []) X h (c_X9_isDigit l D ct ad L φ N0 σ (σ 76 0 (Int.toNat x2)) _ hw) rfl rfl ⟨Nat.le_of_ble_eq_true rfl, Nat.le_of_ble_eq_true rfl⟩ kw_976 kw_977 kw_124 kw_978 pd_X9_isDigit rfl hl.1 rfl (Nat.le_of_ble_eq_true rfl) ⟨Nat.le_of_ble_eq_true rfl, Nat.le_of_ble_eq_true rfl⟩ dX9_behindDigits_16) (fun r_6 σ_5 H locs hw h => ?_)
      obtain ⟨g_7, hwt, hwf⟩ := hw
      refine j_if_eq (tgt := 28) X g_7 dX9_behindDigits_19 (by decide) (fun c_8 => ?_) (fun c_8 => ?_)
      · have hw := hwt c_8
        refine lv_iload_n X.1 X.2.1 dX9_behindDigits_28 rfl (lv_at hl 1 rfl) ?_
        exact k_ir X rfl h hw dX9_behindDigits_29
      · have hw := hwf c_8
        refine j_iinc (kk9 := 1) (lv' := [(2, .int (iv (x2 + 1))), (0, .ref (ad 9 0))]) X dX9_behindDigits_22 hl rfl (by decide) rfl (fun ls hl => ?_)
        refine lv_goto (tgt := 2) X.1 X.2.1 dX9_behindDigits_25 (by decide) ?_
        exact ih σ_5 (x2 + 1) _ _ _ hw h (lv_sub hl [1, 0] rfl)
theorem pd_X9_behindDigits : yX9_behindDigits.cls ≠ "java/lang/invoke/MethodHandle" ∧ yX9_behindDigits.cls ≠ "java/lang/invoke/VarHandle" ∧ (parseMethodDescriptor yX9_behindDigits.desc).map (fun d => d.parameters.length) = some 1 := by decide +kernel
def wp_X9_behindDigits (σ : St) (x1 : Int) (Q : Int → St → Prop) : Prop := ∃ n2, wp_X9_behindDigits_2 Q n2 σ x1
set_option maxRecDepth 100000 in
set_option maxHeartbeats 4000000 in
theorem c_X9_behindDigits (l : Launch) (D : va_G) (ct : Nat → ClassId) (ad : Nat → Nat → Nat) (L : List (Nat × Nat)) (φ : Nat → Nat → Nat → Bool) (N0 : Nat) (σ : St) (x1 : Int) (Q : Int → St → Prop) (hw : wp_X9_behindDigits σ x1 Q) : Met l yX9_behindDigits (.code yX9_behindDigits cX9_behindDigits 3 (some .int) :: gw) ({ frames := 2, cells := 0, slots := 0, locals := 42 } : Room) (Pm D ct ad L φ N0 σ [.ref (ad 9 0), .int (iv x1)]) (Qi D ct ad L φ N0 Q) 0 0 (AA N0) := by
  refine m_of (by decide) (fun p e s m below meth c X hnm h => ?_)
  have hF := X.2.2.2.2.2.2.2.2.1
  have hl := lv_entry ([.ref (ad 9 0), .int (iv x1)]) (n := 3) (Nat.le_of_ble_eq_true rfl)
  rw [lg_entry_eq]
  generalize (lg_sl ([.ref (ad 9 0), .int (iv x1)]) ++ List.replicate (3 - (lg_sl ([.ref (ad 9 0), .int (iv x1)])).length) Slot.unset).toArray = ls at hl ⊢
  have hl : lv_has ls 3 [(0, .ref (ad 9 0)), (1, .int (iv x1))] := hl
  have h : Hs D ct ad L φ N0 s.heap σ s.heap [] := h
  unfold wp_X9_behindDigits at hw
  refine lv_iload_n X.1 X.2.1 dX9_behindDigits_0 rfl (lv_at hl 1 rfl) ?_
  refine lv_istore_n (lv' := [(2, .int (iv x1)), (0, .ref (ad 9 0)), (1, .int (iv x1))]) X.1 X.2.1 dX9_behindDigits_1 rfl hl (by decide) rfl (fun ls hl => ?_)
  exact hw.elim (fun n2 hw => lb_X9_behindDigits_2 X n2 σ x1 _ _ _ hw h (lv_sub hl [1, 0] rfl))
end
section
variable {p : Program} {l : Launch} {e : Env} {s : State} {m : MethodId} {args : Array Value} {below : List Frame} {meth : Method} {c : Code} {D : va_G} {ct : Nat → ClassId} {ad : Nat → Nat → Nat} {L : List (Nat × Nat)} {φ : Nat → Nat → Nat → Bool} {N0 : Nat}
variable {Q : Int → St → Prop}
theorem pd_J1_canEncode_9a6ad : yJ1_canEncode_9a6ad.cls ≠ "java/lang/invoke/MethodHandle" ∧ yJ1_canEncode_9a6ad.cls ≠ "java/lang/invoke/VarHandle" ∧ (parseMethodDescriptor yJ1_canEncode_9a6ad.desc).map (fun d => d.parameters.length) = some 1 := by decide +kernel
def wp_J1_canEncode_9a6ad (σ : St) (x0 : Int) (Q : Int → St → Prop) : Prop := inR x0 ∧ (x0 < 0 → Q 0 σ) ∧ (¬ x0 < 0 → inR x0 ∧ (255 < x0 → Q 0 σ) ∧ (¬ 255 < x0 → Q 1 σ))
set_option maxRecDepth 100000 in
set_option maxHeartbeats 4000000 in
theorem c_J1_canEncode_9a6ad (l : Launch) (D : va_G) (ct : Nat → ClassId) (ad : Nat → Nat → Nat) (L : List (Nat × Nat)) (φ : Nat → Nat → Nat → Bool) (N0 : Nat) (σ : St) (x0 : Int) (Q : Int → St → Prop) (hw : wp_J1_canEncode_9a6ad σ x0 Q) : Met l yJ1_canEncode_9a6ad (.code yJ1_canEncode_9a6ad cJ1_canEncode_9a6ad 1 (some .boolean) :: gw) ({ frames := 0, cells := 0, slots := 0, locals := 0 } : Room) (Pm D ct ad L φ N0 σ [.int (iv x0)]) (Qi D ct ad L φ N0 Q) 0 0 (AA N0) := by
  refine m_ofF (by decide +kernel) (fun p e s m below meth c X hnm h => ?_)
  have hF := X.2.2.2.2.2.2.2.2.1
  have hl := lv_entry ([.int (iv x0)]) (n := 1) (Nat.le_of_ble_eq_true rfl)
  rw [lg_entry_eq]
  generalize (lg_sl ([.int (iv x0)]) ++ List.replicate (1 - (lg_sl ([.int (iv x0)])).length) Slot.unset).toArray = ls at hl ⊢
  have hl : lv_has ls 1 [(0, .int (iv x0))] := hl
  have h : Hs D ct ad L φ N0 s.heap σ s.heap [] := h
  unfold wp_J1_canEncode_9a6ad at hw
  refine lv_iload_n X.1 X.2.1 dJ1_canEncode_9a6ad_0 rfl (lv_at hl 0 rfl) ?_
  obtain ⟨g_1, hwt, hwf⟩ := hw
  refine j_if_lt (tgt := 15) X g_1 dJ1_canEncode_9a6ad_1 (by decide) (fun c_4 => ?_) (fun c_4 => ?_)
  · have hw := hwt c_4
    refine j_iconst X dJ1_canEncode_9a6ad_15 ?_
    exact k_ir X rfl h hw dJ1_canEncode_9a6ad_16
  · have hw := hwf c_4
    refine lv_iload_n X.1 X.2.1 dJ1_canEncode_9a6ad_4 rfl (lv_at hl 0 rfl) ?_
    refine j_sipush X dJ1_canEncode_9a6ad_5 (by decide) ?_
    obtain ⟨g_2, hwt, hwf⟩ := hw
    refine j_cmp_gt (tgt := 15) X g_2 ⟨by decide, by decide⟩ dJ1_canEncode_9a6ad_8 (by decide) (fun c_3 => ?_) (fun c_3 => ?_)
    · have hw := hwt c_3
      refine j_iconst X dJ1_canEncode_9a6ad_15 ?_
      exact k_ir X rfl h hw dJ1_canEncode_9a6ad_16
    · have hw := hwf c_3
      refine j_iconst X dJ1_canEncode_9a6ad_11 ?_
      refine lv_goto (tgt := 16) X.1 X.2.1 dJ1_canEncode_9a6ad_12 (by decide) ?_
      exact k_ir X rfl h hw dJ1_canEncode_9a6ad_16
end
section
variable {p : Program} {l : Launch} {e : Env} {s : State} {m : MethodId} {args : Array Value} {below : List Frame} {meth : Method} {c : Code} {D : va_G} {ct : Nat → ClassId} {ad : Nat → Nat → Nat} {L : List (Nat × Nat)} {φ : Nat → Nat → Nat → Bool} {N0 : Nat}
variable {Q : Int → St → Prop}
theorem pd_J11_isValidCodePoint_9a6ad : yJ11_isValidCodePoint_9a6ad.cls ≠ "java/lang/invoke/MethodHandle" ∧ yJ11_isValidCodePoint_9a6ad.cls ≠ "java/lang/invoke/VarHandle" ∧ (parseMethodDescriptor yJ11_isValidCodePoint_9a6ad.desc).map (fun d => d.parameters.length) = some 1 := by decide +kernel
def wp_J11_isValidCodePoint_9a6ad (σ : St) (x0 : Int) (Q : Int → St → Prop) : Prop := ∀ v_1 : Int, v_1 = (i_iushr x0 16) → (inR v_1 ∧ (17 ≤ v_1 → Q 0 σ) ∧ (¬ 17 ≤ v_1 → Q 1 σ))
set_option maxRecDepth 100000 in
set_option maxHeartbeats 4000000 in
theorem c_J11_isValidCodePoint_9a6ad (l : Launch) (D : va_G) (ct : Nat → ClassId) (ad : Nat → Nat → Nat) (L : List (Nat × Nat)) (φ : Nat → Nat → Nat → Bool) (N0 : Nat) (σ : St) (x0 : Int) (Q : Int → St → Prop) (hw : wp_J11_isValidCodePoint_9a6ad σ x0 Q) : Met l yJ11_isValidCodePoint_9a6ad (.code yJ11_isValidCodePoint_9a6ad cJ11_isValidCodePoint_9a6ad 2 (some .boolean) :: gw) ({ frames := 0, cells := 0, slots := 0, locals := 0 } : Room) (Pm D ct ad L φ N0 σ [.int (iv x0)]) (Qi D ct ad L φ N0 Q) 0 0 (AA N0) := by
  refine m_ofF (by decide +kernel) (fun p e s m below meth c X hnm h => ?_)
  have hF := X.2.2.2.2.2.2.2.2.1
  have hl := lv_entry ([.int (iv x0)]) (n := 2) (Nat.le_of_ble_eq_true rfl)
  rw [lg_entry_eq]
  generalize (lg_sl ([.int (iv x0)]) ++ List.replicate (2 - (lg_sl ([.int (iv x0)])).length) Slot.unset).toArray = ls at hl ⊢
  have hl : lv_has ls 2 [(0, .int (iv x0))] := hl
  have h : Hs D ct ad L φ N0 s.heap σ s.heap [] := h
  unfold wp_J11_isValidCodePoint_9a6ad at hw
  refine lv_iload_n X.1 X.2.1 dJ11_isValidCodePoint_9a6ad_0 rfl (lv_at hl 0 rfl) ?_
  refine j_bipush X dJ11_isValidCodePoint_9a6ad_1 (by decide) ?_
  refine j_iushr X dJ11_isValidCodePoint_9a6ad_3 ?_
  refine j_bind (fun v_1 ev_1 => ?_)
  have hw := hw v_1 ev_1
  refine lv_istore_n (lv' := [(1, .int (iv v_1)), (0, .int (iv x0))]) X.1 X.2.1 dJ11_isValidCodePoint_9a6ad_4 rfl hl (by decide) rfl (fun ls hl => ?_)
  refine lv_iload_n X.1 X.2.1 dJ11_isValidCodePoint_9a6ad_5 rfl (lv_at hl 0 rfl) ?_
  refine j_bipush X dJ11_isValidCodePoint_9a6ad_6 (by decide) ?_
  obtain ⟨g_2, hwt, hwf⟩ := hw
  refine j_cmp_ge (tgt := 15) X g_2 ⟨by decide, by decide⟩ dJ11_isValidCodePoint_9a6ad_8 (by decide) (fun c_3 => ?_) (fun c_3 => ?_)
  · have hw := hwt c_3
    refine j_iconst X dJ11_isValidCodePoint_9a6ad_15 ?_
    exact k_ir X rfl h hw dJ11_isValidCodePoint_9a6ad_16
  · have hw := hwf c_3
    refine j_iconst X dJ11_isValidCodePoint_9a6ad_11 ?_
    refine lv_goto (tgt := 16) X.1 X.2.1 dJ11_isValidCodePoint_9a6ad_12 (by decide) ?_
    exact k_ir X rfl h hw dJ11_isValidCodePoint_9a6ad_16
end
section
variable {p : Program} {l : Launch} {e : Env} {s : State} {m : MethodId} {args : Array Value} {below : List Frame} {meth : Method} {c : Code} {D : va_G} {ct : Nat → ClassId} {ad : Nat → Nat → Nat} {L : List (Nat × Nat)} {φ : Nat → Nat → Nat → Bool} {N0 : Nat}
variable {Q : Int → St → Prop}
theorem pd_X9_isEnd : yX9_isEnd.cls ≠ "java/lang/invoke/MethodHandle" ∧ yX9_isEnd.cls ≠ "java/lang/invoke/VarHandle" ∧ (parseMethodDescriptor yX9_isEnd.desc).map (fun d => d.parameters.length) = some 0 := by decide +kernel
def wp_X9_isEnd (σ : St) (Q : Int → St → Prop) : Prop := inR (σ 9 0 2) ∧ (¬ (σ 9 0 2) = 0 → Q 0 σ) ∧ ((σ 9 0 2) = 0 → Q 1 σ)
set_option maxRecDepth 100000 in
set_option maxHeartbeats 4000000 in
theorem c_X9_isEnd (l : Launch) (D : va_G) (ct : Nat → ClassId) (ad : Nat → Nat → Nat) (L : List (Nat × Nat)) (φ : Nat → Nat → Nat → Bool) (N0 : Nat) (σ : St) (Q : Int → St → Prop) (hw : wp_X9_isEnd σ Q) : Met l yX9_isEnd (.code yX9_isEnd cX9_isEnd 1 (some .boolean) :: gw) ({ frames := 0, cells := 0, slots := 0, locals := 0 } : Room) (Pm D ct ad L φ N0 σ [.ref (ad 9 0)]) (Qi D ct ad L φ N0 Q) 0 0 (AA N0) := by
  refine m_of (by decide) (fun p e s m below meth c X hnm h => ?_)
  have hF := X.2.2.2.2.2.2.2.2.1
  have hl := lv_entry ([.ref (ad 9 0)]) (n := 1) (Nat.le_of_ble_eq_true rfl)
  rw [lg_entry_eq]
  generalize (lg_sl ([.ref (ad 9 0)]) ++ List.replicate (1 - (lg_sl ([.ref (ad 9 0)])).length) Slot.unset).toArray = ls at hl ⊢
  have hl : lv_has ls 1 [(0, .ref (ad 9 0))] := hl
  have h : Hs D ct ad L φ N0 s.heap σ s.heap [] := h
  unfold wp_X9_isEnd at hw
  refine lv_aload_n X.1 X.2.1 dX9_isEnd_0 rfl (lv_at hl 0 rfl) ?_
  refine r_get (ci := 9) X inw_9 h (hF.1 9 rfl).1 rfl rfl 2 (by decide) kw_260 rfl dX9_isEnd_1 ?_
  obtain ⟨g_1, hwt, hwf⟩ := hw
  refine j_if_ne (tgt := 11) X g_1 dX9_isEnd_4 (by decide) (fun c_2 => ?_) (fun c_2 => ?_)
  · have hw := hwt c_2
    refine j_iconst X dX9_isEnd_11 ?_
    exact k_ir X rfl h hw dX9_isEnd_12
  · have hw := hwf c_2
    refine j_iconst X dX9_isEnd_7 ?_
    refine lv_goto (tgt := 12) X.1 X.2.1 dX9_isEnd_8 (by decide) ?_
    exact k_ir X rfl h hw dX9_isEnd_12
end
section
variable {p : Program} {l : Launch} {e : Env} {s : State} {m : MethodId} {args : Array Value} {below : List Frame} {meth : Method} {c : Code} {D : va_G} {ct : Nat → ClassId} {ad : Nat → Nat → Nat} {L : List (Nat × Nat)} {φ : Nat → Nat → Nat → Bool} {N0 : Nat}
variable {Q : Int → St → Prop}
theorem pd_X8_refuse : yX8_refuse.cls ≠ "java/lang/invoke/MethodHandle" ∧ yX8_refuse.cls ≠ "java/lang/invoke/VarHandle" ∧ (parseMethodDescriptor yX8_refuse.desc).map (fun d => d.parameters.length) = some 2 := by decide +kernel
def wp_X8_refuse (σ : St) (x2 : Int) (Q : Int → St → Prop) : Prop := ∀ σ_1 : St, σ_1 = st σ 8 0 11 x2 → (∀ σ_2 : St, σ_2 = st σ_1 8 0 12 (σ_1 9 0 3) → (Q 0 σ_2))
set_option maxRecDepth 100000 in
set_option maxHeartbeats 4000000 in
theorem c_X8_refuse (l : Launch) (D : va_G) (ct : Nat → ClassId) (ad : Nat → Nat → Nat) (L : List (Nat × Nat)) (φ : Nat → Nat → Nat → Bool) (N0 : Nat) (σ : St) (x2 : Int) (Q : Int → St → Prop) (hw : wp_X8_refuse σ x2 Q) : Met l yX8_refuse (.code yX8_refuse cX8_refuse 3 (some .int) :: gw) ({ frames := 0, cells := 0, slots := 0, locals := 0 } : Room) (Pm D ct ad L φ N0 σ [.ref (ad 8 0), .ref (ad 9 0), .int (iv x2)]) (Qi D ct ad L φ N0 Q) 0 0 (AA N0) := by
  refine m_of (by decide) (fun p e s m below meth c X hnm h => ?_)
  have hF := X.2.2.2.2.2.2.2.2.1
  have hl := lv_entry ([.ref (ad 8 0), .ref (ad 9 0), .int (iv x2)]) (n := 3) (Nat.le_of_ble_eq_true rfl)
  rw [lg_entry_eq]
  generalize (lg_sl ([.ref (ad 8 0), .ref (ad 9 0), .int (iv x2)]) ++ List.replicate (3 - (lg_sl ([.ref (ad 8 0), .ref (ad 9 0), .int (iv x2)])).length) Slot.unset).toArray = ls at hl ⊢
  have hl : lv_has ls 3 [(0, .ref (ad 8 0)), (1, .ref (ad 9 0)), (2, .int (iv x2))] := hl
  have h : Hs D ct ad L φ N0 s.heap σ s.heap [] := h
  unfold wp_X8_refuse at hw
  refine lv_aload_n X.1 X.2.1 dX8_refuse_0 rfl (lv_at hl 0 rfl) ?_
  refine lv_iload_n X.1 X.2.1 dX8_refuse_1 rfl (lv_at hl 2 rfl) ?_
  refine r_put (ci := 8) X inw_8 tyX8 tyX8_ok nmX8 h (hF.1 8 rfl).1 rfl rfl 11 (by decide) kw_294 rfl rfl rfl (Nat.le_of_ble_eq_true rfl) rfl rfl dX8_refuse_2 (fun H locs h => ?_)
  obtain ⟨σ_1, eσ_1⟩ : ∃ z : St, z = st σ 8 0 11 x2 := ⟨_, rfl⟩
  rw [← eσ_1] at h
  have hw := hw σ_1 eσ_1
  refine lv_aload_n X.1 X.2.1 dX8_refuse_5 rfl (lv_at hl 0 rfl) ?_
  refine lv_aload_n X.1 X.2.1 dX8_refuse_6 rfl (lv_at hl 1 rfl) ?_
  refine r_getN (ci := 9) X inw_9 h (hF.1 9 rfl).1 rfl rfl 3 (by decide) kw_262 rfl dX8_refuse_7 ?_
  refine r_put (ci := 8) X inw_8 tyX8 tyX8_ok nmX8 h (hF.1 8 rfl).1 rfl rfl 12 (by decide) kw_295 rfl rfl rfl (Nat.le_of_ble_eq_true rfl) rfl rfl dX8_refuse_10 (fun H locs h => ?_)
  obtain ⟨σ_2, eσ_2⟩ : ∃ z : St, z = st σ_1 8 0 12 (σ_1 9 0 3) := ⟨_, rfl⟩
  rw [← eσ_2] at h
  have hw := hw σ_2 eσ_2
  refine j_iconst X dX8_refuse_13 ?_
  exact k_ir X rfl h hw dX8_refuse_14
end
section
variable {p : Program} {l : Launch} {e : Env} {s : State} {m : MethodId} {args : Array Value} {below : List Frame} {meth : Method} {c : Code} {D : va_G} {ct : Nat → ClassId} {ad : Nat → Nat → Nat} {L : List (Nat × Nat)} {φ : Nat → Nat → Nat → Bool} {N0 : Nat}
variable {Q : Int → St → Prop}
theorem pd_X8_statementAtHand : yX8_statementAtHand.cls ≠ "java/lang/invoke/MethodHandle" ∧ yX8_statementAtHand.cls ≠ "java/lang/invoke/VarHandle" ∧ (parseMethodDescriptor yX8_statementAtHand.desc).map (fun d => d.parameters.length) = some 0 := by decide +kernel
def wp_X8_statementAtHand (σ : St) (Q : Int → St → Prop) : Prop := 0 ≤ (σ 8 0 10) ∧ (σ 8 0 10) < 20 ∧ Q ((((σ 8 0 10) * 12) + (σ 67 0 (Int.toNat (σ 8 0 10)))) - 1) σ
set_option maxRecDepth 100000 in
set_option maxHeartbeats 4000000 in
theorem c_X8_statementAtHand (l : Launch) (D : va_G) (ct : Nat → ClassId) (ad : Nat → Nat → Nat) (L : List (Nat × Nat)) (φ : Nat → Nat → Nat → Bool) (N0 : Nat) (σ : St) (Q : Int → St → Prop) (hw : wp_X8_statementAtHand σ Q) : Met l yX8_statementAtHand (.code yX8_statementAtHand cX8_statementAtHand 1 (some .int) :: gw) ({ frames := 0, cells := 0, slots := 0, locals := 0 } : Room) (Pm D ct ad L φ N0 σ [.ref (ad 8 0)]) (Qi D ct ad L φ N0 Q) 0 0 (AA N0) := by
  refine m_of (by decide) (fun p e s m below meth c X hnm h => ?_)
  have hF := X.2.2.2.2.2.2.2.2.1
  have hl := lv_entry ([.ref (ad 8 0)]) (n := 1) (Nat.le_of_ble_eq_true rfl)
  rw [lg_entry_eq]
  generalize (lg_sl ([.ref (ad 8 0)]) ++ List.replicate (1 - (lg_sl ([.ref (ad 8 0)])).length) Slot.unset).toArray = ls at hl ⊢
  have hl : lv_has ls 1 [(0, .ref (ad 8 0))] := hl
  have h : Hs D ct ad L φ N0 s.heap σ s.heap [] := h
  unfold wp_X8_statementAtHand at hw
  refine lv_aload_n X.1 X.2.1 dX8_statementAtHand_0 rfl (lv_at hl 0 rfl) ?_
  refine r_get (ci := 8) X inw_8 h (hF.1 8 rfl).1 rfl rfl 10 (by decide) kw_292 rfl dX8_statementAtHand_1 ?_
  refine j_bipush X dX8_statementAtHand_4 (by decide) ?_
  refine j_imul X dX8_statementAtHand_6 ?_
  refine lv_aload_n X.1 X.2.1 dX8_statementAtHand_7 rfl (lv_at hl 0 rfl) ?_
  refine r_getR (ci := 8) X inw_8 h (hF.1 8 rfl).1 rfl rfl 1 (by decide) kw_282 rfl ((hF.1 8 rfl).2 1) dX8_statementAtHand_8 ?_
  refine lv_aload_n X.1 X.2.1 dX8_statementAtHand_11 rfl (lv_at hl 0 rfl) ?_
  refine r_get (ci := 8) X inw_8 h (hF.1 8 rfl).1 rfl rfl 10 (by decide) kw_292 rfl dX8_statementAtHand_12 ?_
  obtain ⟨g_1, g_2, hw⟩ := hw
  refine r_iald (n := 20) X h (hF.1 67 rfl).1 rfl (by decide) g_1 g_2 dX8_statementAtHand_15 ?_
  refine j_iadd X dX8_statementAtHand_16 ?_
  refine j_iconst X dX8_statementAtHand_17 ?_
  refine j_isub X dX8_statementAtHand_18 ?_
  exact k_ir X rfl h hw dX8_statementAtHand_19
end
section
variable {p : Program} {l : Launch} {e : Env} {s : State} {m : MethodId} {args : Array Value} {below : List Frame} {meth : Method} {c : Code} {D : va_G} {ct : Nat → ClassId} {ad : Nat → Nat → Nat} {L : List (Nat × Nat)} {φ : Nat → Nat → Nat → Bool} {N0 : Nat}
variable {Q : Int → St → Prop}
theorem pd_X8_takeObject : yX8_takeObject.cls ≠ "java/lang/invoke/MethodHandle" ∧ yX8_takeObject.cls ≠ "java/lang/invoke/VarHandle" ∧ (parseMethodDescriptor yX8_takeObject.desc).map (fun d => d.parameters.length) = some 2 := by decide +kernel
def wp_X8_takeObject (σ : St) (x2 : Int) (Q : Int → St → Prop) : Prop := inR x2 ∧ (¬ x2 = (-1) → wp_X8_statementAtHand σ (fun r_3 σ_2 => 0 ≤ r_3 ∧ r_3 < 240 ∧ ∀ σ_6 : St, σ_6 = st σ_2 69 0 (Int.toNat r_3) x2 → (Q 4 σ_6))) ∧ (x2 = (-1) → wp_X8_refuse σ 1 (fun r_8 σ_7 => Q r_8 σ_7))
set_option maxRecDepth 100000 in
set_option maxHeartbeats 4000000 in
theorem c_X8_takeObject (l : Launch) (D : va_G) (ct : Nat → ClassId) (ad : Nat → Nat → Nat) (L : List (Nat × Nat)) (φ : Nat → Nat → Nat → Bool) (N0 : Nat) (σ : St) (x2 : Int) (Q : Int → St → Prop) (hw : wp_X8_takeObject σ x2 Q) : Met l yX8_takeObject (.code yX8_takeObject cX8_takeObject 3 (some .int) :: gw) ({ frames := 1, cells := 0, slots := 0, locals := 22 } : Room) (Pm D ct ad L φ N0 σ [.ref (ad 8 0), .ref (ad 9 0), .int (iv x2)]) (Qi D ct ad L φ N0 Q) 0 0 (AA N0) := by
  refine m_of (by decide) (fun p e s m below meth c X hnm h => ?_)
  have hF := X.2.2.2.2.2.2.2.2.1
  have hl := lv_entry ([.ref (ad 8 0), .ref (ad 9 0), .int (iv x2)]) (n := 3) (Nat.le_of_ble_eq_true rfl)
  rw [lg_entry_eq]
  generalize (lg_sl ([.ref (ad 8 0), .ref (ad 9 0), .int (iv x2)]) ++ List.replicate (3 - (lg_sl ([.ref (ad 8 0), .ref (ad 9 0), .int (iv x2)])).length) Slot.unset).toArray = ls at hl ⊢
  have hl : lv_has ls 3 [(0, .ref (ad 8 0)), (1, .ref (ad 9 0)), (2, .int (iv x2))] := hl
  have h : Hs D ct ad L φ N0 s.heap σ s.heap [] := h
  unfold wp_X8_takeObject at hw
  refine lv_iload_n X.1 X.2.1 dX8_takeObject_0 rfl (lv_at hl 2 rfl) ?_
  refine j_iconst X dX8_takeObject_1 ?_
  obtain ⟨g_1, hwt, hwf⟩ := hw
  refine j_cmp_ne (tgt := 12) X g_1 ⟨by decide, by decide⟩ dX8_takeObject_2 (by decide) (fun c_9 => ?_) (fun c_9 => ?_)
  · have hw := hwt c_9
    refine lv_aload_n X.1 X.2.1 dX8_takeObject_12 rfl (lv_at hl 0 rfl) ?_
    refine r_getR (ci := 8) X inw_8 h (hF.1 8 rfl).1 rfl rfl 3 (by decide) kw_284 rfl ((hF.1 8 rfl).2 3) dX8_takeObject_13 ?_
    refine lv_aload_n X.1 X.2.1 dX8_takeObject_16 rfl (lv_at hl 0 rfl) ?_
    refine k_i h (r_V (C := RX8) (ci := 8) (As := []) (rest := [.ref (ad 69 0)]) X h (c_X8_statementAtHand l D ct ad L φ N0 σ _ hw) rfl rfl ⟨Nat.le_of_ble_eq_true rfl, Nat.le_of_ble_eq_true rfl⟩ kw_1112 kw_1114 kw_30 kw_125 kw_1115 ⟨rfl, pd_X8_statementAtHand⟩ (hF.1 8 rfl).1 rfl rfl rfl hl.1 rfl (Nat.le_of_ble_eq_true rfl) ⟨Nat.le_of_ble_eq_true rfl, Nat.le_of_ble_eq_true rfl⟩ dX8_takeObject_17) (fun r_3 σ_2 H locs hw h => ?_)
    refine lv_iload_n X.1 X.2.1 dX8_takeObject_20 rfl (lv_at hl 2 rfl) ?_
    obtain ⟨g_4, g_5, hw⟩ := hw
    refine r_iast (n := 240) X h (hF.1 69 rfl).1 (fun _ => rfl) (by decide) g_4 g_5 rfl dX8_takeObject_21 (fun H locs h => ?_)
    obtain ⟨σ_6, eσ_6⟩ : ∃ z : St, z = st σ_2 69 0 (Int.toNat r_3) x2 := ⟨_, rfl⟩
    rw [← eσ_6] at h
    have hw := hw σ_6 eσ_6
    refine j_iconst X dX8_takeObject_22 ?_
    exact k_ir X rfl h hw dX8_takeObject_23
  · have hw := hwf c_9
    refine lv_aload_n X.1 X.2.1 dX8_takeObject_5 rfl (lv_at hl 0 rfl) ?_
    refine lv_aload_n X.1 X.2.1 dX8_takeObject_6 rfl (lv_at hl 1 rfl) ?_
    refine j_iconst X dX8_takeObject_7 ?_
    refine k_i h (r_V (C := RX8) (ci := 8) (As := [.ref (ad 9 0), .int (iv 1)]) (rest := []) X h (c_X8_refuse l D ct ad L φ N0 σ 1 _ hw) rfl rfl ⟨Nat.le_of_ble_eq_true rfl, Nat.le_of_ble_eq_true rfl⟩ kw_1108 kw_1110 kw_29 kw_125 kw_1111 ⟨rfl, pd_X8_refuse⟩ (hF.1 8 rfl).1 rfl rfl rfl hl.1 rfl (Nat.le_of_ble_eq_true rfl) ⟨Nat.le_of_ble_eq_true rfl, Nat.le_of_ble_eq_true rfl⟩ dX8_takeObject_8) (fun r_8 σ_7 H locs hw h => ?_)
    exact k_ir X rfl h hw dX8_takeObject_11
end
section
variable {p : Program} {l : Launch} {e : Env} {s : State} {m : MethodId} {args : Array Value} {below : List Frame} {meth : Method} {c : Code} {D : va_G} {ct : Nat → ClassId} {ad : Nat → Nat → Nat} {L : List (Nat × Nat)} {φ : Nat → Nat → Nat → Bool} {N0 : Nat}
variable {Q : Int → St → Prop}
def wp_X9_number_17 (Q : Int → St → Prop) : Nat → St → Int → Int → Prop
  | 0, _, _, _ => False
  | n + 1, σ, x1, x2 => inR x2 ∧ inR (σ 9 0 4) ∧ ((σ 9 0 4) ≤ x2 → Q x1 σ) ∧ (¬ (σ 9 0 4) ≤ x2 → 0 ≤ x2 ∧ x2 < 300 ∧ ∀ v_5 : Int, v_5 = (((x1 * 10) + (σ 76 0 (Int.toNat x2))) - 48) → (wp_X9_number_17 Q n σ v_5 (x2 + 1)))
set_option maxRecDepth 100000 in
set_option maxHeartbeats 4000000 in
theorem lb_X9_number_17 (X : Cx p s m meth c args cX9_number 3 (some .int) RX9 D ct L φ N0) : ∀ (n : Nat) (σ : St) (x1 : Int) (x2 : Int) (H : Heap) (locs : List Loc) (ls : Array Slot), wp_X9_number_17 Q n σ x1 x2 → Hs D ct ad L φ N0 s.heap σ H locs → lv_has ls 3 [(0, .ref (ad 9 0)), (1, .int (iv x1)), (2, .int (iv x2))] → W p l e ({ frames := 0, cells := 0, slots := 0, locals := 0 } : Room) s m args below meth c H locs 0 0 (MQ below (Qi D ct ad L φ N0 Q) args s 0 0 (AA N0)) (F0 m 17 ls []) := by
  have hF := X.2.2.2.2.2.2.2.2.1
  intro n
  induction n with
  | zero => intro σ x1 x2 H locs ls hw; exact hw.elim
  | succ n ih =>
    intro σ x1 x2 H locs ls hw h hl
    unfold wp_X9_number_17 at hw
    refine lv_iload_n X.1 X.2.1 dX9_number_17 rfl (lv_at hl 2 rfl) ?_
    refine lv_aload_n X.1 X.2.1 dX9_number_18 rfl (lv_at hl 0 rfl) ?_
    refine r_get (ci := 9) X inw_9 h (hF.1 9 rfl).1 rfl rfl 4 (by decide) kw_263 rfl dX9_number_19 ?_
    obtain ⟨g_1, g_2, hwt, hwf⟩ := hw
    refine j_cmp_ge (tgt := 46) X g_1 g_2 dX9_number_22 (by decide) (fun c_6 => ?_) (fun c_6 => ?_)
    · have hw := hwt c_6
      refine lv_iload_n X.1 X.2.1 dX9_number_46 rfl (lv_at hl 1 rfl) ?_
      exact k_ir X rfl h hw dX9_number_47
    · have hw := hwf c_6
      refine lv_iload_n X.1 X.2.1 dX9_number_25 rfl (lv_at hl 1 rfl) ?_
      refine j_bipush X dX9_number_26 (by decide) ?_
      refine j_imul X dX9_number_28 ?_
      refine lv_aload_n X.1 X.2.1 dX9_number_29 rfl (lv_at hl 0 rfl) ?_
      refine r_getR (ci := 9) X inw_9 h (hF.1 9 rfl).1 rfl rfl 0 (by decide) kw_256 rfl ((hF.1 9 rfl).2 0) dX9_number_30 ?_
      refine lv_iload_n X.1 X.2.1 dX9_number_33 rfl (lv_at hl 2 rfl) ?_
      obtain ⟨g_3, g_4, hw⟩ := hw
      refine r_iald (n := 300) X h (hF.1 76 rfl).1 rfl (by decide) g_3 g_4 dX9_number_34 ?_
      refine j_iadd X dX9_number_35 ?_
      refine j_bipush X dX9_number_36 (by decide) ?_
      refine j_isub X dX9_number_38 ?_
      refine j_bind (fun v_5 ev_5 => ?_)
      have hw := hw v_5 ev_5
      refine lv_istore_n (lv' := [(1, .int (iv v_5)), (0, .ref (ad 9 0)), (2, .int (iv x2))]) X.1 X.2.1 dX9_number_39 rfl hl (by decide) rfl (fun ls hl => ?_)
      refine j_iinc (kk9 := 2) (lv' := [(2, .int (iv (x2 + 1))), (1, .int (iv v_5)), (0, .ref (ad 9 0))]) X dX9_number_40 hl rfl (by decide) rfl (fun ls hl => ?_)
      refine lv_goto (tgt := 17) X.1 X.2.1 dX9_number_43 (by decide) ?_
      exact ih σ v_5 (x2 + 1) _ _ _ hw h (lv_sub hl [2, 1, 0] rfl)
theorem pd_X9_number : yX9_number.cls ≠ "java/lang/invoke/MethodHandle" ∧ yX9_number.cls ≠ "java/lang/invoke/VarHandle" ∧ (parseMethodDescriptor yX9_number.desc).map (fun d => d.parameters.length) = some 0 := by decide +kernel
def wp_X9_number (σ : St) (Q : Int → St → Prop) : Prop := inR (σ 9 0 2) ∧ ((σ 9 0 2) = 2 → ∀ v_8 : Int, v_8 = (σ 9 0 3) → (∃ n17, wp_X9_number_17 Q n17 σ 0 v_8)) ∧ (¬ (σ 9 0 2) = 2 → Q (-1) σ)
set_option maxRecDepth 100000 in
set_option maxHeartbeats 4000000 in
theorem c_X9_number (l : Launch) (D : va_G) (ct : Nat → ClassId) (ad : Nat → Nat → Nat) (L : List (Nat × Nat)) (φ : Nat → Nat → Nat → Bool) (N0 : Nat) (σ : St) (Q : Int → St → Prop) (hw : wp_X9_number σ Q) : Met l yX9_number (.code yX9_number cX9_number 3 (some .int) :: gw) ({ frames := 0, cells := 0, slots := 0, locals := 0 } : Room) (Pm D ct ad L φ N0 σ [.ref (ad 9 0)]) (Qi D ct ad L φ N0 Q) 0 0 (AA N0) := by
  refine m_of (by decide) (fun p e s m below meth c X hnm h => ?_)
  have hF := X.2.2.2.2.2.2.2.2.1
  have hl := lv_entry ([.ref (ad 9 0)]) (n := 3) (Nat.le_of_ble_eq_true rfl)
  rw [lg_entry_eq]
  generalize (lg_sl ([.ref (ad 9 0)]) ++ List.replicate (3 - (lg_sl ([.ref (ad 9 0)])).length) Slot.unset).toArray = ls at hl ⊢
  have hl : lv_has ls 3 [(0, .ref (ad 9 0))] := hl
  have h : Hs D ct ad L φ N0 s.heap σ s.heap [] := h
  unfold wp_X9_number at hw
  refine lv_aload_n X.1 X.2.1 dX9_number_0 rfl (lv_at hl 0 rfl) ?_
  refine r_get (ci := 9) X inw_9 h (hF.1 9 rfl).1 rfl rfl 2 (by decide) kw_260 rfl dX9_number_1 ?_
  refine j_iconst X dX9_number_4 ?_
  obtain ⟨g_7, hwt, hwf⟩ := hw
  refine j_cmp_eq (tgt := 10) X g_7 ⟨by decide, by decide⟩ dX9_number_5 (by decide) (fun c_9 => ?_) (fun c_9 => ?_)
  · have hw := hwt c_9
    refine j_iconst X dX9_number_10 ?_
    refine lv_istore_n (lv' := [(1, .int (iv 0)), (0, .ref (ad 9 0))]) X.1 X.2.1 dX9_number_11 rfl hl (by decide) rfl (fun ls hl => ?_)
    refine lv_aload_n X.1 X.2.1 dX9_number_12 rfl (lv_at hl 1 rfl) ?_
    refine r_get (ci := 9) X inw_9 h (hF.1 9 rfl).1 rfl rfl 3 (by decide) kw_261 rfl dX9_number_13 ?_
    refine j_bind (fun v_8 ev_8 => ?_)
    have hw := hw v_8 ev_8
    refine lv_istore_n (lv' := [(2, .int (iv v_8)), (1, .int (iv 0)), (0, .ref (ad 9 0))]) X.1 X.2.1 dX9_number_16 rfl hl (by decide) rfl (fun ls hl => ?_)
    exact hw.elim (fun n17 hw => lb_X9_number_17 X n17 σ 0 v_8 _ _ _ hw h (lv_sub hl [2, 1, 0] rfl))
  · have hw := hwf c_9
    refine j_iconst X dX9_number_8 ?_
    exact k_ir X rfl h hw dX9_number_9
end
section
variable {p : Program} {l : Launch} {e : Env} {s : State} {m : MethodId} {args : Array Value} {below : List Frame} {meth : Method} {c : Code} {D : va_G} {ct : Nat → ClassId} {ad : Nat → Nat → Nat} {L : List (Nat × Nat)} {φ : Nat → Nat → Nat → Bool} {N0 : Nat}
variable {Q : Int → St → Prop}
theorem pd_X8_termAtHand : yX8_termAtHand.cls ≠ "java/lang/invoke/MethodHandle" ∧ yX8_termAtHand.cls ≠ "java/lang/invoke/VarHandle" ∧ (parseMethodDescriptor yX8_termAtHand.desc).map (fun d => d.parameters.length) = some 0 := by decide +kernel
def wp_X8_termAtHand (σ : St) (Q : Int → St → Prop) : Prop := wp_X8_statementAtHand σ (fun r_2 σ_1 => wp_X8_statementAtHand σ_1 (fun r_4 σ_3 => 0 ≤ r_4 ∧ r_4 < 240 ∧ Q (((r_2 * 5) + (σ_3 70 0 (Int.toNat r_4))) - 1) σ_3))
set_option maxRecDepth 100000 in
set_option maxHeartbeats 4000000 in
theorem c_X8_termAtHand (l : Launch) (D : va_G) (ct : Nat → ClassId) (ad : Nat → Nat → Nat) (L : List (Nat × Nat)) (φ : Nat → Nat → Nat → Bool) (N0 : Nat) (σ : St) (Q : Int → St → Prop) (hw : wp_X8_termAtHand σ Q) : Met l yX8_termAtHand (.code yX8_termAtHand cX8_termAtHand 1 (some .int) :: gw) ({ frames := 1, cells := 0, slots := 0, locals := 20 } : Room) (Pm D ct ad L φ N0 σ [.ref (ad 8 0)]) (Qi D ct ad L φ N0 Q) 0 0 (AA N0) := by
  refine m_of (by decide) (fun p e s m below meth c X hnm h => ?_)
  have hF := X.2.2.2.2.2.2.2.2.1
  have hl := lv_entry ([.ref (ad 8 0)]) (n := 1) (Nat.le_of_ble_eq_true rfl)
  rw [lg_entry_eq]
  generalize (lg_sl ([.ref (ad 8 0)]) ++ List.replicate (1 - (lg_sl ([.ref (ad 8 0)])).length) Slot.unset).toArray = ls at hl ⊢
  have hl : lv_has ls 1 [(0, .ref (ad 8 0))] := hl
  have h : Hs D ct ad L φ N0 s.heap σ s.heap [] := h
  unfold wp_X8_termAtHand at hw
  refine lv_aload_n X.1 X.2.1 dX8_termAtHand_0 rfl (lv_at hl 0 rfl) ?_
  refine k_i h (r_V (C := RX8) (ci := 8) (As := []) (rest := []) X h (c_X8_statementAtHand l D ct ad L φ N0 σ _ hw) rfl rfl ⟨Nat.le_of_ble_eq_true rfl, Nat.le_of_ble_eq_true rfl⟩ kw_1112 kw_1114 kw_30 kw_125 kw_1115 ⟨rfl, pd_X8_statementAtHand⟩ (hF.1 8 rfl).1 rfl rfl rfl hl.1 rfl (Nat.le_of_ble_eq_true rfl) ⟨Nat.le_of_ble_eq_true rfl, Nat.le_of_ble_eq_true rfl⟩ dX8_termAtHand_1) (fun r_2 σ_1 H locs hw h => ?_)
  refine j_iconst X dX8_termAtHand_4 ?_
  refine j_imul X dX8_termAtHand_5 ?_
  refine lv_aload_n X.1 X.2.1 dX8_termAtHand_6 rfl (lv_at hl 0 rfl) ?_
  refine r_getR (ci := 8) X inw_8 h (hF.1 8 rfl).1 rfl rfl 4 (by decide) kw_285 rfl ((hF.1 8 rfl).2 4) dX8_termAtHand_7 ?_
  refine lv_aload_n X.1 X.2.1 dX8_termAtHand_10 rfl (lv_at hl 0 rfl) ?_
  refine k_i h (r_V (C := RX8) (ci := 8) (As := []) (rest := [.ref (ad 70 0), .int (iv (r_2 * 5))]) X h (c_X8_statementAtHand l D ct ad L φ N0 σ_1 _ hw) rfl rfl ⟨Nat.le_of_ble_eq_true rfl, Nat.le_of_ble_eq_true rfl⟩ kw_1112 kw_1114 kw_30 kw_125 kw_1115 ⟨rfl, pd_X8_statementAtHand⟩ (hF.1 8 rfl).1 rfl rfl rfl hl.1 rfl (Nat.le_of_ble_eq_true rfl) ⟨Nat.le_of_ble_eq_true rfl, Nat.le_of_ble_eq_true rfl⟩ dX8_termAtHand_11) (fun r_4 σ_3 H locs hw h => ?_)
  obtain ⟨g_5, g_6, hw⟩ := hw
  refine r_iald (n := 240) X h (hF.1 70 rfl).1 rfl (by decide) g_5 g_6 dX8_termAtHand_14 ?_
  refine j_iadd X dX8_termAtHand_15 ?_
  refine j_iconst X dX8_termAtHand_16 ?_
  refine j_isub X dX8_termAtHand_17 ?_
  exact k_ir X rfl h hw dX8_termAtHand_18
end
section
variable {p : Program} {l : Launch} {e : Env} {s : State} {m : MethodId} {args : Array Value} {below : List Frame} {meth : Method} {c : Code} {D : va_G} {ct : Nat → ClassId} {ad : Nat → Nat → Nat} {L : List (Nat × Nat)} {φ : Nat → Nat → Nat → Bool} {N0 : Nat}
variable {Q : Int → St → Prop}
theorem pd_X8_takeWord : yX8_takeWord.cls ≠ "java/lang/invoke/MethodHandle" ∧ yX8_takeWord.cls ≠ "java/lang/invoke/VarHandle" ∧ (parseMethodDescriptor yX8_takeWord.desc).map (fun d => d.parameters.length) = some 2 := by decide +kernel
def wp_X8_takeWord (σ : St) (x2 : Int) (Q : Int → St → Prop) : Prop := inR x2 ∧ (¬ x2 = (-1) → wp_X8_termAtHand σ (fun r_3 σ_2 => 0 ≤ r_3 ∧ r_3 < 1200 ∧ ∀ σ_6 : St, σ_6 = st σ_2 72 0 (Int.toNat r_3) x2 → (Q 7 σ_6))) ∧ (x2 = (-1) → wp_X8_refuse σ 1 (fun r_8 σ_7 => Q r_8 σ_7))
set_option maxRecDepth 100000 in
set_option maxHeartbeats 4000000 in
theorem c_X8_takeWord (l : Launch) (D : va_G) (ct : Nat → ClassId) (ad : Nat → Nat → Nat) (L : List (Nat × Nat)) (φ : Nat → Nat → Nat → Bool) (N0 : Nat) (σ : St) (x2 : Int) (Q : Int → St → Prop) (hw : wp_X8_takeWord σ x2 Q) : Met l yX8_takeWord (.code yX8_takeWord cX8_takeWord 3 (some .int) :: gw) ({ frames := 2, cells := 0, slots := 0, locals := 40 } : Room) (Pm D ct ad L φ N0 σ [.ref (ad 8 0), .ref (ad 9 0), .int (iv x2)]) (Qi D ct ad L φ N0 Q) 0 0 (AA N0) := by
  refine m_of (by decide) (fun p e s m below meth c X hnm h => ?_)
  have hF := X.2.2.2.2.2.2.2.2.1
  have hl := lv_entry ([.ref (ad 8 0), .ref (ad 9 0), .int (iv x2)]) (n := 3) (Nat.le_of_ble_eq_true rfl)
  rw [lg_entry_eq]
  generalize (lg_sl ([.ref (ad 8 0), .ref (ad 9 0), .int (iv x2)]) ++ List.replicate (3 - (lg_sl ([.ref (ad 8 0), .ref (ad 9 0), .int (iv x2)])).length) Slot.unset).toArray = ls at hl ⊢
  have hl : lv_has ls 3 [(0, .ref (ad 8 0)), (1, .ref (ad 9 0)), (2, .int (iv x2))] := hl
  have h : Hs D ct ad L φ N0 s.heap σ s.heap [] := h
  unfold wp_X8_takeWord at hw
  refine lv_iload_n X.1 X.2.1 dX8_takeWord_0 rfl (lv_at hl 2 rfl) ?_
  refine j_iconst X dX8_takeWord_1 ?_
  obtain ⟨g_1, hwt, hwf⟩ := hw
  refine j_cmp_ne (tgt := 12) X g_1 ⟨by decide, by decide⟩ dX8_takeWord_2 (by decide) (fun c_9 => ?_) (fun c_9 => ?_)
  · have hw := hwt c_9
    refine lv_aload_n X.1 X.2.1 dX8_takeWord_12 rfl (lv_at hl 0 rfl) ?_
    refine r_getR (ci := 8) X inw_8 h (hF.1 8 rfl).1 rfl rfl 6 (by decide) kw_287 rfl ((hF.1 8 rfl).2 6) dX8_takeWord_13 ?_
    refine lv_aload_n X.1 X.2.1 dX8_takeWord_16 rfl (lv_at hl 0 rfl) ?_
    refine k_i h (r_V (C := RX8) (ci := 8) (As := []) (rest := [.ref (ad 72 0)]) X h (c_X8_termAtHand l D ct ad L φ N0 σ _ hw) rfl rfl ⟨Nat.le_of_ble_eq_true rfl, Nat.le_of_ble_eq_true rfl⟩ kw_1136 kw_1138 kw_33 kw_125 kw_1139 ⟨rfl, pd_X8_termAtHand⟩ (hF.1 8 rfl).1 rfl rfl rfl hl.1 rfl (Nat.le_of_ble_eq_true rfl) ⟨Nat.le_of_ble_eq_true rfl, Nat.le_of_ble_eq_true rfl⟩ dX8_takeWord_17) (fun r_3 σ_2 H locs hw h => ?_)
    refine lv_iload_n X.1 X.2.1 dX8_takeWord_20 rfl (lv_at hl 2 rfl) ?_
    obtain ⟨g_4, g_5, hw⟩ := hw
    refine r_iast (n := 1200) X h (hF.1 72 rfl).1 (fun _ => rfl) (by decide) g_4 g_5 rfl dX8_takeWord_21 (fun H locs h => ?_)
    obtain ⟨σ_6, eσ_6⟩ : ∃ z : St, z = st σ_2 72 0 (Int.toNat r_3) x2 := ⟨_, rfl⟩
    rw [← eσ_6] at h
    have hw := hw σ_6 eσ_6
    refine j_bipush X dX8_takeWord_22 (by decide) ?_
    exact k_ir X rfl h hw dX8_takeWord_24
  · have hw := hwf c_9
    refine lv_aload_n X.1 X.2.1 dX8_takeWord_5 rfl (lv_at hl 0 rfl) ?_
    refine lv_aload_n X.1 X.2.1 dX8_takeWord_6 rfl (lv_at hl 1 rfl) ?_
    refine j_iconst X dX8_takeWord_7 ?_
    refine k_i h (r_V (C := RX8) (ci := 8) (As := [.ref (ad 9 0), .int (iv 1)]) (rest := []) X h (c_X8_refuse l D ct ad L φ N0 σ 1 _ hw) rfl rfl ⟨Nat.le_of_ble_eq_true rfl, Nat.le_of_ble_eq_true rfl⟩ kw_1108 kw_1110 kw_29 kw_125 kw_1111 ⟨rfl, pd_X8_refuse⟩ (hF.1 8 rfl).1 rfl rfl rfl hl.1 rfl (Nat.le_of_ble_eq_true rfl) ⟨Nat.le_of_ble_eq_true rfl, Nat.le_of_ble_eq_true rfl⟩ dX8_takeWord_8) (fun r_8 σ_7 H locs hw h => ?_)
    exact k_ir X rfl h hw dX8_takeWord_11
end
section
variable {p : Program} {l : Launch} {e : Env} {s : State} {m : MethodId} {args : Array Value} {below : List Frame} {meth : Method} {c : Code} {D : va_G} {ct : Nat → ClassId} {ad : Nat → Nat → Nat} {L : List (Nat × Nat)} {φ : Nat → Nat → Nat → Bool} {N0 : Nat}
variable {Q : Int → St → Prop}
theorem pd_X8_takeValue : yX8_takeValue.cls ≠ "java/lang/invoke/MethodHandle" ∧ yX8_takeValue.cls ≠ "java/lang/invoke/VarHandle" ∧ (parseMethodDescriptor yX8_takeValue.desc).map (fun d => d.parameters.length) = some 1 := by decide +kernel
def wp_X8_takeValue (σ : St) (Q : Int → St → Prop) : Prop := wp_X9_number σ (fun r_2 σ_1 => inR r_2 ∧ (¬ r_2 = (-1) → wp_X8_termAtHand σ_1 (fun r_5 σ_4 => 0 ≤ r_5 ∧ r_5 < 1200 ∧ ∀ σ_8 : St, σ_8 = st σ_4 74 0 (Int.toNat r_5) r_2 → (Q 9 σ_8))) ∧ (r_2 = (-1) → wp_X8_refuse σ_1 1 (fun r_10 σ_9 => Q r_10 σ_9)))
set_option maxRecDepth 100000 in
set_option maxHeartbeats 4000000 in
theorem c_X8_takeValue (l : Launch) (D : va_G) (ct : Nat → ClassId) (ad : Nat → Nat → Nat) (L : List (Nat × Nat)) (φ : Nat → Nat → Nat → Bool) (N0 : Nat) (σ : St) (Q : Int → St → Prop) (hw : wp_X8_takeValue σ Q) : Met l yX8_takeValue (.code yX8_takeValue cX8_takeValue 3 (some .int) :: gw) ({ frames := 2, cells := 0, slots := 0, locals := 40 } : Room) (Pm D ct ad L φ N0 σ [.ref (ad 8 0), .ref (ad 9 0)]) (Qi D ct ad L φ N0 Q) 0 0 (AA N0) := by
  refine m_of (by decide) (fun p e s m below meth c X hnm h => ?_)
  have hF := X.2.2.2.2.2.2.2.2.1
  have hl := lv_entry ([.ref (ad 8 0), .ref (ad 9 0)]) (n := 3) (Nat.le_of_ble_eq_true rfl)
  rw [lg_entry_eq]
  generalize (lg_sl ([.ref (ad 8 0), .ref (ad 9 0)]) ++ List.replicate (3 - (lg_sl ([.ref (ad 8 0), .ref (ad 9 0)])).length) Slot.unset).toArray = ls at hl ⊢
  have hl : lv_has ls 3 [(0, .ref (ad 8 0)), (1, .ref (ad 9 0))] := hl
  have h : Hs D ct ad L φ N0 s.heap σ s.heap [] := h
  unfold wp_X8_takeValue at hw
  refine lv_aload_n X.1 X.2.1 dX8_takeValue_0 rfl (lv_at hl 1 rfl) ?_
  refine k_i h (r_V (C := RX9) (ci := 9) (As := []) (rest := []) X h (c_X9_number l D ct ad L φ N0 σ _ hw) rfl rfl ⟨Nat.le_of_ble_eq_true rfl, Nat.le_of_ble_eq_true rfl⟩ kw_1121 kw_1122 kw_1123 kw_124 kw_1124 ⟨rfl, pd_X9_number⟩ (hF.1 9 rfl).1 rfl rfl rfl hl.1 rfl (Nat.le_of_ble_eq_true rfl) ⟨Nat.le_of_ble_eq_true rfl, Nat.le_of_ble_eq_true rfl⟩ dX8_takeValue_1) (fun r_2 σ_1 H locs hw h => ?_)
  refine lv_istore_n (lv' := [(2, .int (iv r_2)), (0, .ref (ad 8 0)), (1, .ref (ad 9 0))]) X.1 X.2.1 dX8_takeValue_4 rfl hl (by decide) rfl (fun ls hl => ?_)
  refine lv_iload_n X.1 X.2.1 dX8_takeValue_5 rfl (lv_at hl 0 rfl) ?_
  refine j_iconst X dX8_takeValue_6 ?_
  obtain ⟨g_3, hwt, hwf⟩ := hw
  refine j_cmp_ne (tgt := 17) X g_3 ⟨by decide, by decide⟩ dX8_takeValue_7 (by decide) (fun c_11 => ?_) (fun c_11 => ?_)
  · have hw := hwt c_11
    refine lv_aload_n X.1 X.2.1 dX8_takeValue_17 rfl (lv_at hl 1 rfl) ?_
    refine r_getR (ci := 8) X inw_8 h (hF.1 8 rfl).1 rfl rfl 8 (by decide) kw_289 rfl ((hF.1 8 rfl).2 8) dX8_takeValue_18 ?_
    refine lv_aload_n X.1 X.2.1 dX8_takeValue_21 rfl (lv_at hl 1 rfl) ?_
    refine k_i h (r_V (C := RX8) (ci := 8) (As := []) (rest := [.ref (ad 74 0)]) X h (c_X8_termAtHand l D ct ad L φ N0 σ_1 _ hw) rfl rfl ⟨Nat.le_of_ble_eq_true rfl, Nat.le_of_ble_eq_true rfl⟩ kw_1136 kw_1138 kw_33 kw_125 kw_1139 ⟨rfl, pd_X8_termAtHand⟩ (hF.1 8 rfl).1 rfl rfl rfl hl.1 rfl (Nat.le_of_ble_eq_true rfl) ⟨Nat.le_of_ble_eq_true rfl, Nat.le_of_ble_eq_true rfl⟩ dX8_takeValue_22) (fun r_5 σ_4 H locs hw h => ?_)
    refine lv_iload_n X.1 X.2.1 dX8_takeValue_25 rfl (lv_at hl 0 rfl) ?_
    obtain ⟨g_6, g_7, hw⟩ := hw
    refine r_iast (n := 1200) X h (hF.1 74 rfl).1 (fun _ => rfl) (by decide) g_6 g_7 rfl dX8_takeValue_26 (fun H locs h => ?_)
    obtain ⟨σ_8, eσ_8⟩ : ∃ z : St, z = st σ_4 74 0 (Int.toNat r_5) r_2 := ⟨_, rfl⟩
    rw [← eσ_8] at h
    have hw := hw σ_8 eσ_8
    refine j_bipush X dX8_takeValue_27 (by decide) ?_
    exact k_ir X rfl h hw dX8_takeValue_29
  · have hw := hwf c_11
    refine lv_aload_n X.1 X.2.1 dX8_takeValue_10 rfl (lv_at hl 1 rfl) ?_
    refine lv_aload_n X.1 X.2.1 dX8_takeValue_11 rfl (lv_at hl 2 rfl) ?_
    refine j_iconst X dX8_takeValue_12 ?_
    refine k_i h (r_V (C := RX8) (ci := 8) (As := [.ref (ad 9 0), .int (iv 1)]) (rest := []) X h (c_X8_refuse l D ct ad L φ N0 σ_1 1 _ hw) rfl rfl ⟨Nat.le_of_ble_eq_true rfl, Nat.le_of_ble_eq_true rfl⟩ kw_1108 kw_1110 kw_29 kw_125 kw_1111 ⟨rfl, pd_X8_refuse⟩ (hF.1 8 rfl).1 rfl rfl rfl hl.1 rfl (Nat.le_of_ble_eq_true rfl) ⟨Nat.le_of_ble_eq_true rfl, Nat.le_of_ble_eq_true rfl⟩ dX8_takeValue_13) (fun r_10 σ_9 H locs hw h => ?_)
    exact k_ir X rfl h hw dX8_takeValue_16
end
section
variable {p : Program} {l : Launch} {e : Env} {s : State} {m : MethodId} {args : Array Value} {below : List Frame} {meth : Method} {c : Code} {D : va_G} {ct : Nat → ClassId} {ad : Nat → Nat → Nat} {L : List (Nat × Nat)} {φ : Nat → Nat → Nat → Bool} {N0 : Nat}
variable {Q : St → Prop}
theorem pd_X8_askOfCell : yX8_askOfCell.cls ≠ "java/lang/invoke/MethodHandle" ∧ yX8_askOfCell.cls ≠ "java/lang/invoke/VarHandle" ∧ (parseMethodDescriptor yX8_askOfCell.desc).map (fun d => d.parameters.length) = some 2 := by decide +kernel
def wp_X8_askOfCell (σ : St) (x2 : Int) (Q : St → Prop) : Prop := ∀ σ_1 : St, σ_1 = st σ 75 0 (Int.toNat 0) x2 → (0 ≤ x2 ∧ x2 < 64 ∧ ∀ σ_4 : St, σ_4 = st σ_1 75 0 (Int.toNat 1) (σ_1 28 0 (Int.toNat x2)) → (wp_X3_far σ_4 x2 (fun r_6 σ_5 => ∀ σ_7 : St, σ_7 = st σ_5 75 0 (Int.toNat 9) r_6 → (0 ≤ x2 ∧ x2 < 64 ∧ ∀ σ_10 : St, σ_10 = st σ_7 75 0 (Int.toNat 10) (σ_7 29 0 (Int.toNat x2)) → (Q σ_10)))))
set_option maxRecDepth 100000 in
set_option maxHeartbeats 4000000 in
theorem c_X8_askOfCell (l : Launch) (D : va_G) (ct : Nat → ClassId) (ad : Nat → Nat → Nat) (L : List (Nat × Nat)) (φ : Nat → Nat → Nat → Bool) (N0 : Nat) (σ : St) (x2 : Int) (Q : St → Prop) (hw : wp_X8_askOfCell σ x2 Q) : Met l yX8_askOfCell (.code yX8_askOfCell cX8_askOfCell 3 none :: gw) ({ frames := 3, cells := 0, slots := 0, locals := 62 } : Room) (Pm D ct ad L φ N0 σ [.ref (ad 8 0), .ref (ad 3 0), .int (iv x2)]) (Qv D ct ad L φ N0 Q) 0 0 (AA N0) := by
  refine m_of (by decide) (fun p e s m below meth c X hnm h => ?_)
  have hF := X.2.2.2.2.2.2.2.2.1
  have hl := lv_entry ([.ref (ad 8 0), .ref (ad 3 0), .int (iv x2)]) (n := 3) (Nat.le_of_ble_eq_true rfl)
  rw [lg_entry_eq]
  generalize (lg_sl ([.ref (ad 8 0), .ref (ad 3 0), .int (iv x2)]) ++ List.replicate (3 - (lg_sl ([.ref (ad 8 0), .ref (ad 3 0), .int (iv x2)])).length) Slot.unset).toArray = ls at hl ⊢
  have hl : lv_has ls 3 [(0, .ref (ad 8 0)), (1, .ref (ad 3 0)), (2, .int (iv x2))] := hl
  have h : Hs D ct ad L φ N0 s.heap σ s.heap [] := h
  unfold wp_X8_askOfCell at hw
  refine lv_aload_n X.1 X.2.1 dX8_askOfCell_0 rfl (lv_at hl 0 rfl) ?_
  refine r_getR (ci := 8) X inw_8 h (hF.1 8 rfl).1 rfl rfl 9 (by decide) kw_290 rfl ((hF.1 8 rfl).2 9) dX8_askOfCell_1 ?_
  refine j_iconst X dX8_askOfCell_4 ?_
  refine lv_iload_n X.1 X.2.1 dX8_askOfCell_5 rfl (lv_at hl 2 rfl) ?_
  refine r_iast (n := 13) X h (hF.1 75 rfl).1 (fun _ => rfl) (by decide) (by decide) (by decide) rfl dX8_askOfCell_6 (fun H locs h => ?_)
  obtain ⟨σ_1, eσ_1⟩ : ∃ z : St, z = st σ 75 0 (Int.toNat 0) x2 := ⟨_, rfl⟩
  rw [← eσ_1] at h
  have hw := hw σ_1 eσ_1
  refine lv_aload_n X.1 X.2.1 dX8_askOfCell_7 rfl (lv_at hl 0 rfl) ?_
  refine r_getR (ci := 8) X inw_8 h (hF.1 8 rfl).1 rfl rfl 9 (by decide) kw_290 rfl ((hF.1 8 rfl).2 9) dX8_askOfCell_8 ?_
  refine j_iconst X dX8_askOfCell_11 ?_
  refine lv_aload_n X.1 X.2.1 dX8_askOfCell_12 rfl (lv_at hl 1 rfl) ?_
  refine r_getRN (ci := 3) X inw_3 h (hF.1 3 rfl).1 rfl rfl 0 (by decide) kw_188 rfl ((hF.1 3 rfl).2 0) dX8_askOfCell_13 ?_
  refine lv_iload_n X.1 X.2.1 dX8_askOfCell_16 rfl (lv_at hl 2 rfl) ?_
  obtain ⟨g_2, g_3, hw⟩ := hw
  refine r_iald (n := 64) X h (hF.1 28 rfl).1 rfl (by decide) g_2 g_3 dX8_askOfCell_17 ?_
  refine r_iast (n := 13) X h (hF.1 75 rfl).1 (fun _ => rfl) (by decide) (by decide) (by decide) rfl dX8_askOfCell_18 (fun H locs h => ?_)
  obtain ⟨σ_4, eσ_4⟩ : ∃ z : St, z = st σ_1 75 0 (Int.toNat 1) (σ_1 28 0 (Int.toNat x2)) := ⟨_, rfl⟩
  rw [← eσ_4] at h
  have hw := hw σ_4 eσ_4
  refine lv_aload_n X.1 X.2.1 dX8_askOfCell_19 rfl (lv_at hl 0 rfl) ?_
  refine r_getR (ci := 8) X inw_8 h (hF.1 8 rfl).1 rfl rfl 9 (by decide) kw_290 rfl ((hF.1 8 rfl).2 9) dX8_askOfCell_20 ?_
  refine j_bipush X dX8_askOfCell_23 (by decide) ?_
  refine lv_aload_n X.1 X.2.1 dX8_askOfCell_25 rfl (lv_at hl 1 rfl) ?_
  refine lv_iload_n X.1 X.2.1 dX8_askOfCell_26 rfl (lv_at hl 2 rfl) ?_
  refine k_i h (r_V (C := RX3) (ci := 3) (As := [.int (iv x2)]) (rest := [.int (iv 9), .ref (ad 75 0)]) X h (c_X3_far l D ct ad L φ N0 σ_4 x2 _ hw) rfl rfl ⟨Nat.le_of_ble_eq_true rfl, Nat.le_of_ble_eq_true rfl⟩ kw_669 kw_582 kw_583 kw_122 kw_584 ⟨rfl, pd_X3_far⟩ (hF.1 3 rfl).1 rfl rfl rfl hl.1 rfl (Nat.le_of_ble_eq_true rfl) ⟨Nat.le_of_ble_eq_true rfl, Nat.le_of_ble_eq_true rfl⟩ dX8_askOfCell_27) (fun r_6 σ_5 H locs hw h => ?_)
  refine r_iast (n := 13) X h (hF.1 75 rfl).1 (fun _ => rfl) (by decide) (by decide) (by decide) rfl dX8_askOfCell_30 (fun H locs h => ?_)
  obtain ⟨σ_7, eσ_7⟩ : ∃ z : St, z = st σ_5 75 0 (Int.toNat 9) r_6 := ⟨_, rfl⟩
  rw [← eσ_7] at h
  have hw := hw σ_7 eσ_7
  refine lv_aload_n X.1 X.2.1 dX8_askOfCell_31 rfl (lv_at hl 0 rfl) ?_
  refine r_getR (ci := 8) X inw_8 h (hF.1 8 rfl).1 rfl rfl 9 (by decide) kw_290 rfl ((hF.1 8 rfl).2 9) dX8_askOfCell_32 ?_
  refine j_bipush X dX8_askOfCell_35 (by decide) ?_
  refine lv_aload_n X.1 X.2.1 dX8_askOfCell_37 rfl (lv_at hl 1 rfl) ?_
  refine r_getRN (ci := 3) X inw_3 h (hF.1 3 rfl).1 rfl rfl 1 (by decide) kw_191 rfl ((hF.1 3 rfl).2 1) dX8_askOfCell_38 ?_
  refine lv_iload_n X.1 X.2.1 dX8_askOfCell_41 rfl (lv_at hl 2 rfl) ?_
  obtain ⟨g_8, g_9, hw⟩ := hw
  refine r_iald (n := 64) X h (hF.1 29 rfl).1 rfl (by decide) g_8 g_9 dX8_askOfCell_42 ?_
  refine r_iast (n := 13) X h (hF.1 75 rfl).1 (fun _ => rfl) (by decide) (by decide) (by decide) rfl dX8_askOfCell_43 (fun H locs h => ?_)
  obtain ⟨σ_10, eσ_10⟩ : ∃ z : St, z = st σ_7 75 0 (Int.toNat 10) (σ_7 29 0 (Int.toNat x2)) := ⟨_, rfl⟩
  rw [← eσ_10] at h
  have hw := hw σ_10 eσ_10
  exact k_vr X h hw dX8_askOfCell_44
end
section
variable {p : Program} {l : Launch} {e : Env} {s : State} {m : MethodId} {args : Array Value} {below : List Frame} {meth : Method} {c : Code} {D : va_G} {ct : Nat → ClassId} {ad : Nat → Nat → Nat} {L : List (Nat × Nat)} {φ : Nat → Nat → Nat → Bool} {N0 : Nat}
variable {Q : Int → St → Prop}
def wp_X8_textOn_44 (K4 : St → Int → Int → Int → Prop) (Q : Int → St → Prop) (σ : St) (x1 : Int) (x2 : Int) (x3 : Int) : Prop := K4 σ x1 x2 (x3 + 1)
set_option maxRecDepth 100000 in
set_option maxHeartbeats 4000000 in
theorem lb_X8_textOn_44 (X : Cx p s m meth c args cX8_textOn 4 (some .int) RX8 D ct L φ N0) {K4 : St → Int → Int → Int → Prop} (hK4 : ∀ (σ : St) (x1 : Int) (x2 : Int) (x3 : Int) (H : Heap) (locs : List Loc) (ls : Array Slot), K4 σ x1 x2 x3 → Hs D ct ad L φ N0 s.heap σ H locs → lv_has ls 4 [(0, .ref (ad 8 0)), (1, .int (iv x1)), (2, .int (iv x2)), (3, .int (iv x3))] → W p l e ({ frames := 0, cells := 0, slots := 0, locals := 0 } : Room) s m args below meth c H locs 0 0 (MQ below (Qi D ct ad L φ N0 Q) args s 0 0 (AA N0)) (F0 m 4 ls [])) (σ : St) (x1 : Int) (x2 : Int) (x3 : Int) (H : Heap) (locs : List Loc) (ls : Array Slot) (hw : wp_X8_textOn_44 K4 Q σ x1 x2 x3) (h : Hs D ct ad L φ N0 s.heap σ H locs) (hl : lv_has ls 4 [(0, .ref (ad 8 0)), (1, .int (iv x1)), (2, .int (iv x2)), (3, .int (iv x3))]) : W p l e ({ frames := 0, cells := 0, slots := 0, locals := 0 } : Room) s m args below meth c H locs 0 0 (MQ below (Qi D ct ad L φ N0 Q) args s 0 0 (AA N0)) (F0 m 44 ls []) := by
  have hF := X.2.2.2.2.2.2.2.2.1
  unfold wp_X8_textOn_44 at hw
  refine j_iinc (kk9 := 3) (lv' := [(3, .int (iv (x3 + 1))), (0, .ref (ad 8 0)), (1, .int (iv x1)), (2, .int (iv x2))]) X dX8_textOn_44 hl rfl (by decide) rfl (fun ls hl => ?_)
  refine lv_goto (tgt := 4) X.1 X.2.1 dX8_textOn_47 (by decide) ?_
  exact hK4 σ x1 x2 (x3 + 1) _ _ _ hw h (lv_sub hl [1, 2, 3, 0] rfl)
def wp_X8_textOn_42 (K4 : St → Int → Int → Int → Prop) (Q : Int → St → Prop) (σ : St) (x1 : Int) (x3 : Int) : Prop := wp_X8_textOn_44 K4 Q σ x1 x3 x3
set_option maxRecDepth 100000 in
set_option maxHeartbeats 4000000 in
theorem lb_X8_textOn_42 (X : Cx p s m meth c args cX8_textOn 4 (some .int) RX8 D ct L φ N0) {K4 : St → Int → Int → Int → Prop} (hK4 : ∀ (σ : St) (x1 : Int) (x2 : Int) (x3 : Int) (H : Heap) (locs : List Loc) (ls : Array Slot), K4 σ x1 x2 x3 → Hs D ct ad L φ N0 s.heap σ H locs → lv_has ls 4 [(0, .ref (ad 8 0)), (1, .int (iv x1)), (2, .int (iv x2)), (3, .int (iv x3))] → W p l e ({ frames := 0, cells := 0, slots := 0, locals := 0 } : Room) s m args below meth c H locs 0 0 (MQ below (Qi D ct ad L φ N0 Q) args s 0 0 (AA N0)) (F0 m 4 ls [])) (σ : St) (x1 : Int) (x3 : Int) (H : Heap) (locs : List Loc) (ls : Array Slot) (hw : wp_X8_textOn_42 K4 Q σ x1 x3) (h : Hs D ct ad L φ N0 s.heap σ H locs) (hl : lv_has ls 4 [(0, .ref (ad 8 0)), (1, .int (iv x1)), (3, .int (iv x3))]) : W p l e ({ frames := 0, cells := 0, slots := 0, locals := 0 } : Room) s m args below meth c H locs 0 0 (MQ below (Qi D ct ad L φ N0 Q) args s 0 0 (AA N0)) (F0 m 42 ls []) := by
  have hF := X.2.2.2.2.2.2.2.2.1
  unfold wp_X8_textOn_42 at hw
  refine lv_iload_n X.1 X.2.1 dX8_textOn_42 rfl (lv_at hl 2 rfl) ?_
  refine lv_istore_n (lv' := [(2, .int (iv x3)), (0, .ref (ad 8 0)), (1, .int (iv x1)), (3, .int (iv x3))]) X.1 X.2.1 dX8_textOn_43 rfl hl (by decide) rfl (fun ls hl => ?_)
  exact lb_X8_textOn_44 X hK4 σ x1 x3 x3 _ _ _ hw h (lv_sub hl [1, 2, 0, 3] rfl)
def wp_X8_textOn_4 (Q : Int → St → Prop) : Nat → St → Int → Int → Int → Prop
  | 0, _, _, _, _ => False
  | n + 1, σ, x1, x2, x3 => inR x3 ∧ inR (σ 8 0 10) ∧ ((σ 8 0 10) ≤ x3 → Q x2 σ) ∧ (¬ (σ 8 0 10) ≤ x3 → 0 ≤ x3 ∧ x3 < 20 ∧ inR (σ 66 0 (Int.toNat x3)) ∧ inR x1 ∧ (x1 < (σ 66 0 (Int.toNat x3)) → wp_X8_textOn_44 (fun σ x1 x2 x3 => wp_X8_textOn_4 Q n σ x1 x2 x3) Q σ x1 x2 x3) ∧ (¬ x1 < (σ 66 0 (Int.toNat x3)) → inR x2 ∧ (x2 = (-1) → wp_X8_textOn_42 (fun σ x1 x2 x3 => wp_X8_textOn_4 Q n σ x1 x2 x3) Q σ x1 x3) ∧ (¬ x2 = (-1) → 0 ≤ x3 ∧ x3 < 20 ∧ 0 ≤ x2 ∧ x2 < 20 ∧ inR (σ 66 0 (Int.toNat x3)) ∧ inR (σ 66 0 (Int.toNat x2)) ∧ ((σ 66 0 (Int.toNat x3)) < (σ 66 0 (Int.toNat x2)) → wp_X8_textOn_44 (fun σ x1 x2 x3 => wp_X8_textOn_4 Q n σ x1 x2 x3) Q σ x1 x2 x3) ∧ (¬ (σ 66 0 (Int.toNat x3)) < (σ 66 0 (Int.toNat x2)) → wp_X8_textOn_42 (fun σ x1 x2 x3 => wp_X8_textOn_4 Q n σ x1 x2 x3) Q σ x1 x3))))
set_option maxRecDepth 100000 in
set_option maxHeartbeats 4000000 in
theorem lb_X8_textOn_4 (X : Cx p s m meth c args cX8_textOn 4 (some .int) RX8 D ct L φ N0) : ∀ (n : Nat) (σ : St) (x1 : Int) (x2 : Int) (x3 : Int) (H : Heap) (locs : List Loc) (ls : Array Slot), wp_X8_textOn_4 Q n σ x1 x2 x3 → Hs D ct ad L φ N0 s.heap σ H locs → lv_has ls 4 [(0, .ref (ad 8 0)), (1, .int (iv x1)), (2, .int (iv x2)), (3, .int (iv x3))] → W p l e ({ frames := 0, cells := 0, slots := 0, locals := 0 } : Room) s m args below meth c H locs 0 0 (MQ below (Qi D ct ad L φ N0 Q) args s 0 0 (AA N0)) (F0 m 4 ls []) := by
  have hF := X.2.2.2.2.2.2.2.2.1
  intro n
  induction n with
  | zero => intro σ x1 x2 x3 H locs ls hw; exact hw.elim
  | succ n ih =>
    intro σ x1 x2 x3 H locs ls hw h hl
    unfold wp_X8_textOn_4 at hw
    refine lv_iload_n X.1 X.2.1 dX8_textOn_4 rfl (lv_at hl 3 rfl) ?_
    refine lv_aload_n X.1 X.2.1 dX8_textOn_5 rfl (lv_at hl 0 rfl) ?_
    refine r_get (ci := 8) X inw_8 h (hF.1 8 rfl).1 rfl rfl 10 (by decide) kw_292 rfl dX8_textOn_6 ?_
    obtain ⟨g_1, g_2, hwt, hwf⟩ := hw
    refine j_cmp_ge (tgt := 50) X g_1 g_2 dX8_textOn_9 (by decide) (fun c_17 => ?_) (fun c_17 => ?_)
    · have hw := hwt c_17
      refine lv_iload_n X.1 X.2.1 dX8_textOn_50 rfl (lv_at hl 2 rfl) ?_
      exact k_ir X rfl h hw dX8_textOn_51
    · have hw := hwf c_17
      refine lv_aload_n X.1 X.2.1 dX8_textOn_12 rfl (lv_at hl 0 rfl) ?_
      refine r_getR (ci := 8) X inw_8 h (hF.1 8 rfl).1 rfl rfl 0 (by decide) kw_281 rfl ((hF.1 8 rfl).2 0) dX8_textOn_13 ?_
      refine lv_iload_n X.1 X.2.1 dX8_textOn_16 rfl (lv_at hl 3 rfl) ?_
      obtain ⟨g_3, g_4, hw⟩ := hw
      refine r_iald (n := 20) X h (hF.1 66 rfl).1 rfl (by decide) g_3 g_4 dX8_textOn_17 ?_
      refine lv_iload_n X.1 X.2.1 dX8_textOn_18 rfl (lv_at hl 1 rfl) ?_
      obtain ⟨g_5, g_6, hwt, hwf⟩ := hw
      refine j_cmp_gt (tgt := 44) X g_5 g_6 dX8_textOn_19 (by decide) (fun c_16 => ?_) (fun c_16 => ?_)
      · have hw := hwt c_16
        exact lb_X8_textOn_44 X ih σ x1 x2 x3 _ _ _ hw h (lv_sub hl [0, 1, 2, 3] rfl)
      · have hw := hwf c_16
        refine lv_iload_n X.1 X.2.1 dX8_textOn_22 rfl (lv_at hl 2 rfl) ?_
        refine j_iconst X dX8_textOn_23 ?_
        obtain ⟨g_7, hwt, hwf⟩ := hw
        refine j_cmp_eq (tgt := 42) X g_7 ⟨by decide, by decide⟩ dX8_textOn_24 (by decide) (fun c_15 => ?_) (fun c_15 => ?_)
        · have hw := hwt c_15
          exact lb_X8_textOn_42 X ih σ x1 x3 _ _ _ hw h (lv_sub hl [0, 1, 3] rfl)
        · have hw := hwf c_15
          refine lv_aload_n X.1 X.2.1 dX8_textOn_27 rfl (lv_at hl 0 rfl) ?_
          refine r_getR (ci := 8) X inw_8 h (hF.1 8 rfl).1 rfl rfl 0 (by decide) kw_281 rfl ((hF.1 8 rfl).2 0) dX8_textOn_28 ?_
          refine lv_iload_n X.1 X.2.1 dX8_textOn_31 rfl (lv_at hl 3 rfl) ?_
          obtain ⟨g_8, g_9, hw⟩ := hw
          refine r_iald (n := 20) X h (hF.1 66 rfl).1 rfl (by decide) g_8 g_9 dX8_textOn_32 ?_
          refine lv_aload_n X.1 X.2.1 dX8_textOn_33 rfl (lv_at hl 0 rfl) ?_
          refine r_getR (ci := 8) X inw_8 h (hF.1 8 rfl).1 rfl rfl 0 (by decide) kw_281 rfl ((hF.1 8 rfl).2 0) dX8_textOn_34 ?_
          refine lv_iload_n X.1 X.2.1 dX8_textOn_37 rfl (lv_at hl 2 rfl) ?_
          obtain ⟨g_10, g_11, hw⟩ := hw
          refine r_iald (n := 20) X h (hF.1 66 rfl).1 rfl (by decide) g_10 g_11 dX8_textOn_38 ?_
          obtain ⟨g_12, g_13, hwt, hwf⟩ := hw
          refine j_cmp_lt (tgt := 44) X g_12 g_13 dX8_textOn_39 (by decide) (fun c_14 => ?_) (fun c_14 => ?_)
          · have hw := hwt c_14
            exact lb_X8_textOn_44 X ih σ x1 x2 x3 _ _ _ hw h (lv_sub hl [0, 1, 2, 3] rfl)
          · have hw := hwf c_14
            exact lb_X8_textOn_42 X ih σ x1 x3 _ _ _ hw h (lv_sub hl [0, 1, 3] rfl)
theorem pd_X8_textOn : yX8_textOn.cls ≠ "java/lang/invoke/MethodHandle" ∧ yX8_textOn.cls ≠ "java/lang/invoke/VarHandle" ∧ (parseMethodDescriptor yX8_textOn.desc).map (fun d => d.parameters.length) = some 1 := by decide +kernel
def wp_X8_textOn (σ : St) (x1 : Int) (Q : Int → St → Prop) : Prop := ∃ n4, wp_X8_textOn_4 Q n4 σ x1 (-1) 0
set_option maxRecDepth 100000 in
set_option maxHeartbeats 4000000 in
theorem c_X8_textOn (l : Launch) (D : va_G) (ct : Nat → ClassId) (ad : Nat → Nat → Nat) (L : List (Nat × Nat)) (φ : Nat → Nat → Nat → Bool) (N0 : Nat) (σ : St) (x1 : Int) (Q : Int → St → Prop) (hw : wp_X8_textOn σ x1 Q) : Met l yX8_textOn (.code yX8_textOn cX8_textOn 4 (some .int) :: gw) ({ frames := 0, cells := 0, slots := 0, locals := 0 } : Room) (Pm D ct ad L φ N0 σ [.ref (ad 8 0), .int (iv x1)]) (Qi D ct ad L φ N0 Q) 0 0 (AA N0) := by
  refine m_of (by decide) (fun p e s m below meth c X hnm h => ?_)
  have hF := X.2.2.2.2.2.2.2.2.1
  have hl := lv_entry ([.ref (ad 8 0), .int (iv x1)]) (n := 4) (Nat.le_of_ble_eq_true rfl)
  rw [lg_entry_eq]
  generalize (lg_sl ([.ref (ad 8 0), .int (iv x1)]) ++ List.replicate (4 - (lg_sl ([.ref (ad 8 0), .int (iv x1)])).length) Slot.unset).toArray = ls at hl ⊢
  have hl : lv_has ls 4 [(0, .ref (ad 8 0)), (1, .int (iv x1))] := hl
  have h : Hs D ct ad L φ N0 s.heap σ s.heap [] := h
  unfold wp_X8_textOn at hw
  refine j_iconst X dX8_textOn_0 ?_
  refine lv_istore_n (lv' := [(2, .int (iv (-1))), (0, .ref (ad 8 0)), (1, .int (iv x1))]) X.1 X.2.1 dX8_textOn_1 rfl hl (by decide) rfl (fun ls hl => ?_)
  refine j_iconst X dX8_textOn_2 ?_
  refine lv_istore_n (lv' := [(3, .int (iv 0)), (2, .int (iv (-1))), (0, .ref (ad 8 0)), (1, .int (iv x1))]) X.1 X.2.1 dX8_textOn_3 rfl hl (by decide) rfl (fun ls hl => ?_)
  exact hw.elim (fun n4 hw => lb_X8_textOn_4 X n4 σ x1 (-1) 0 _ _ _ hw h (lv_sub hl [2, 3, 1, 0] rfl))
end
section
variable {p : Program} {l : Launch} {e : Env} {s : State} {m : MethodId} {args : Array Value} {below : List Frame} {meth : Method} {c : Code} {D : va_G} {ct : Nat → ClassId} {ad : Nat → Nat → Nat} {L : List (Nat × Nat)} {φ : Nat → Nat → Nat → Bool} {N0 : Nat}
variable {Q : Int → St → Prop}
theorem pd_X8_compares : yX8_compares.cls ≠ "java/lang/invoke/MethodHandle" ∧ yX8_compares.cls ≠ "java/lang/invoke/VarHandle" ∧ (parseMethodDescriptor yX8_compares.desc).map (fun d => d.parameters.length) = some 3 := by decide +kernel
def wp_X8_compares (σ : St) (x0 : Int) (x1 : Int) (x2 : Int) (Q : Int → St → Prop) : Prop := inR x1 ∧ (x1 = 0 → inR x0 ∧ inR x2 ∧ (x2 ≤ x0 → Q 0 σ) ∧ (¬ x2 ≤ x0 → Q 1 σ)) ∧ (x1 = 1 → inR x0 ∧ inR x2 ∧ (¬ x0 = x2 → Q 0 σ) ∧ (x0 = x2 → Q 1 σ)) ∧ (¬ x1 = 0 ∧ ¬ x1 = 1 → inR x0 ∧ inR x2 ∧ (x0 ≤ x2 → Q 0 σ) ∧ (¬ x0 ≤ x2 → Q 1 σ))
set_option maxRecDepth 100000 in
set_option maxHeartbeats 4000000 in
theorem c_X8_compares (l : Launch) (D : va_G) (ct : Nat → ClassId) (ad : Nat → Nat → Nat) (L : List (Nat × Nat)) (φ : Nat → Nat → Nat → Bool) (N0 : Nat) (σ : St) (x0 : Int) (x1 : Int) (x2 : Int) (Q : Int → St → Prop) (hw : wp_X8_compares σ x0 x1 x2 Q) : Met l yX8_compares (.code yX8_compares cX8_compares 3 (some .boolean) :: gw) ({ frames := 0, cells := 0, slots := 0, locals := 0 } : Room) (Pm D ct ad L φ N0 σ [.int (iv x0), .int (iv x1), .int (iv x2)]) (Qi D ct ad L φ N0 Q) 0 0 (AA N0) := by
  refine m_of (by decide) (fun p e s m below meth c X hnm h => ?_)
  have hF := X.2.2.2.2.2.2.2.2.1
  have hl := lv_entry ([.int (iv x0), .int (iv x1), .int (iv x2)]) (n := 3) (Nat.le_of_ble_eq_true rfl)
  rw [lg_entry_eq]
  generalize (lg_sl ([.int (iv x0), .int (iv x1), .int (iv x2)]) ++ List.replicate (3 - (lg_sl ([.int (iv x0), .int (iv x1), .int (iv x2)])).length) Slot.unset).toArray = ls at hl ⊢
  have hl : lv_has ls 3 [(0, .int (iv x0)), (1, .int (iv x1)), (2, .int (iv x2))] := hl
  have h : Hs D ct ad L φ N0 s.heap σ s.heap [] := h
  unfold wp_X8_compares at hw
  refine lv_iload_n X.1 X.2.1 dX8_compares_0 rfl (lv_at hl 1 rfl) ?_
  obtain ⟨g_1, hw0, hw1, hw2⟩ := hw
  by_cases c_11 : x1 = 0
  · have hw := hw0 c_11
    refine j_lk (off := 27) (tgt := 28) X g_1 dX8_compares_1 (by decide) (by rw [c_11]; decide) (by decide) ?_
    refine lv_iload_n X.1 X.2.1 dX8_compares_28 rfl (lv_at hl 0 rfl) ?_
    refine lv_iload_n X.1 X.2.1 dX8_compares_29 rfl (lv_at hl 2 rfl) ?_
    obtain ⟨g_2, g_3, hwt, hwf⟩ := hw
    refine j_cmp_ge (tgt := 37) X g_2 g_3 dX8_compares_30 (by decide) (fun c_4 => ?_) (fun c_4 => ?_)
    · have hw := hwt c_4
      refine j_iconst X dX8_compares_37 ?_
      exact k_ir X rfl h hw dX8_compares_38
    · have hw := hwf c_4
      refine j_iconst X dX8_compares_33 ?_
      refine lv_goto (tgt := 38) X.1 X.2.1 dX8_compares_34 (by decide) ?_
      exact k_ir X rfl h hw dX8_compares_38
  by_cases c_12 : x1 = 1
  · have hw := hw1 c_12
    refine j_lk (off := 38) (tgt := 39) X g_1 dX8_compares_1 (by decide) (by rw [c_12]; decide) (by decide) ?_
    refine lv_iload_n X.1 X.2.1 dX8_compares_39 rfl (lv_at hl 0 rfl) ?_
    refine lv_iload_n X.1 X.2.1 dX8_compares_40 rfl (lv_at hl 2 rfl) ?_
    obtain ⟨g_5, g_6, hwt, hwf⟩ := hw
    refine j_cmp_ne (tgt := 48) X g_5 g_6 dX8_compares_41 (by decide) (fun c_7 => ?_) (fun c_7 => ?_)
    · have hw := hwt c_7
      refine j_iconst X dX8_compares_48 ?_
      exact k_ir X rfl h hw dX8_compares_49
    · have hw := hwf c_7
      refine j_iconst X dX8_compares_44 ?_
      refine lv_goto (tgt := 49) X.1 X.2.1 dX8_compares_45 (by decide) ?_
      exact k_ir X rfl h hw dX8_compares_49
  have hw := hw2 ⟨c_11, c_12⟩
  refine j_lk (off := 49) (tgt := 50) X g_1 dX8_compares_1 (by decide) (by simp [Op.lookupswitch.offset, Ne.symm (show x1 ≠ 0 from c_11), Ne.symm (show x1 ≠ 1 from c_12)]) (by decide) ?_
  refine lv_iload_n X.1 X.2.1 dX8_compares_50 rfl (lv_at hl 0 rfl) ?_
  refine lv_iload_n X.1 X.2.1 dX8_compares_51 rfl (lv_at hl 2 rfl) ?_
  obtain ⟨g_8, g_9, hwt, hwf⟩ := hw
  refine j_cmp_le (tgt := 59) X g_8 g_9 dX8_compares_52 (by decide) (fun c_10 => ?_) (fun c_10 => ?_)
  · have hw := hwt c_10
    refine j_iconst X dX8_compares_59 ?_
    exact k_ir X rfl h hw dX8_compares_60
  · have hw := hwf c_10
    refine j_iconst X dX8_compares_55 ?_
    refine lv_goto (tgt := 60) X.1 X.2.1 dX8_compares_56 (by decide) ?_
    exact k_ir X rfl h hw dX8_compares_60
end
section
variable {p : Program} {l : Launch} {e : Env} {s : State} {m : MethodId} {args : Array Value} {below : List Frame} {meth : Method} {c : Code} {D : va_G} {ct : Nat → ClassId} {ad : Nat → Nat → Nat} {L : List (Nat × Nat)} {φ : Nat → Nat → Nat → Bool} {N0 : Nat}
variable {Q : Int → St → Prop}
theorem pd_X8_termHolds : yX8_termHolds.cls ≠ "java/lang/invoke/MethodHandle" ∧ yX8_termHolds.cls ≠ "java/lang/invoke/VarHandle" ∧ (parseMethodDescriptor yX8_termHolds.desc).map (fun d => d.parameters.length) = some 1 := by decide +kernel
def wp_X8_termHolds (σ : St) (x1 : Int) (Q : Int → St → Prop) : Prop := 0 ≤ x1 ∧ x1 < 1200 ∧ 0 ≤ (σ 72 0 (Int.toNat x1)) ∧ (σ 72 0 (Int.toNat x1)) < 13 ∧ 0 ≤ x1 ∧ x1 < 1200 ∧ 0 ≤ x1 ∧ x1 < 1200 ∧ wp_X8_compares σ (σ 75 0 (Int.toNat (σ 72 0 (Int.toNat x1)))) (σ 73 0 (Int.toNat x1)) (σ 74 0 (Int.toNat x1)) (fun r_10 σ_9 => 0 ≤ x1 ∧ x1 < 1200 ∧ inR r_10 ∧ inR (σ_9 71 0 (Int.toNat x1)) ∧ (r_10 = (σ_9 71 0 (Int.toNat x1)) → Q 0 σ_9) ∧ (¬ r_10 = (σ_9 71 0 (Int.toNat x1)) → Q 1 σ_9))
set_option maxRecDepth 100000 in
set_option maxHeartbeats 4000000 in
theorem c_X8_termHolds (l : Launch) (D : va_G) (ct : Nat → ClassId) (ad : Nat → Nat → Nat) (L : List (Nat × Nat)) (φ : Nat → Nat → Nat → Bool) (N0 : Nat) (σ : St) (x1 : Int) (Q : Int → St → Prop) (hw : wp_X8_termHolds σ x1 Q) : Met l yX8_termHolds (.code yX8_termHolds cX8_termHolds 2 (some .boolean) :: gw) ({ frames := 1, cells := 0, slots := 0, locals := 22 } : Room) (Pm D ct ad L φ N0 σ [.ref (ad 8 0), .int (iv x1)]) (Qi D ct ad L φ N0 Q) 0 0 (AA N0) := by
  refine m_of (by decide) (fun p e s m below meth c X hnm h => ?_)
  have hF := X.2.2.2.2.2.2.2.2.1
  have hl := lv_entry ([.ref (ad 8 0), .int (iv x1)]) (n := 2) (Nat.le_of_ble_eq_true rfl)
  rw [lg_entry_eq]
  generalize (lg_sl ([.ref (ad 8 0), .int (iv x1)]) ++ List.replicate (2 - (lg_sl ([.ref (ad 8 0), .int (iv x1)])).length) Slot.unset).toArray = ls at hl ⊢
  have hl : lv_has ls 2 [(0, .ref (ad 8 0)), (1, .int (iv x1))] := hl
  have h : Hs D ct ad L φ N0 s.heap σ s.heap [] := h
  unfold wp_X8_termHolds at hw
  refine lv_aload_n X.1 X.2.1 dX8_termHolds_0 rfl (lv_at hl 0 rfl) ?_
  refine r_getR (ci := 8) X inw_8 h (hF.1 8 rfl).1 rfl rfl 9 (by decide) kw_290 rfl ((hF.1 8 rfl).2 9) dX8_termHolds_1 ?_
  refine lv_aload_n X.1 X.2.1 dX8_termHolds_4 rfl (lv_at hl 0 rfl) ?_
  refine r_getR (ci := 8) X inw_8 h (hF.1 8 rfl).1 rfl rfl 6 (by decide) kw_287 rfl ((hF.1 8 rfl).2 6) dX8_termHolds_5 ?_
  refine lv_iload_n X.1 X.2.1 dX8_termHolds_8 rfl (lv_at hl 1 rfl) ?_
  obtain ⟨g_1, g_2, hw⟩ := hw
  refine r_iald (n := 1200) X h (hF.1 72 rfl).1 rfl (by decide) g_1 g_2 dX8_termHolds_9 ?_
  obtain ⟨g_3, g_4, hw⟩ := hw
  refine r_iald (n := 13) X h (hF.1 75 rfl).1 rfl (by decide) g_3 g_4 dX8_termHolds_10 ?_
  refine lv_aload_n X.1 X.2.1 dX8_termHolds_11 rfl (lv_at hl 0 rfl) ?_
  refine r_getR (ci := 8) X inw_8 h (hF.1 8 rfl).1 rfl rfl 7 (by decide) kw_288 rfl ((hF.1 8 rfl).2 7) dX8_termHolds_12 ?_
  refine lv_iload_n X.1 X.2.1 dX8_termHolds_15 rfl (lv_at hl 1 rfl) ?_
  obtain ⟨g_5, g_6, hw⟩ := hw
  refine r_iald (n := 1200) X h (hF.1 73 rfl).1 rfl (by decide) g_5 g_6 dX8_termHolds_16 ?_
  refine lv_aload_n X.1 X.2.1 dX8_termHolds_17 rfl (lv_at hl 0 rfl) ?_
  refine r_getR (ci := 8) X inw_8 h (hF.1 8 rfl).1 rfl rfl 8 (by decide) kw_289 rfl ((hF.1 8 rfl).2 8) dX8_termHolds_18 ?_
  refine lv_iload_n X.1 X.2.1 dX8_termHolds_21 rfl (lv_at hl 1 rfl) ?_
  obtain ⟨g_7, g_8, hw⟩ := hw
  refine r_iald (n := 1200) X h (hF.1 74 rfl).1 rfl (by decide) g_7 g_8 dX8_termHolds_22 ?_
  refine k_i h (r_S (As := [.int (iv (σ 75 0 (Int.toNat (σ 72 0 (Int.toNat x1))))), .int (iv (σ 73 0 (Int.toNat x1))), .int (iv (σ 74 0 (Int.toNat x1)))]) (rest := []) X h (c_X8_compares l D ct ad L φ N0 σ (σ 75 0 (Int.toNat (σ 72 0 (Int.toNat x1)))) (σ 73 0 (Int.toNat x1)) (σ 74 0 (Int.toNat x1)) _ hw) rfl rfl ⟨Nat.le_of_ble_eq_true rfl, Nat.le_of_ble_eq_true rfl⟩ kw_686 kw_687 kw_125 kw_688 pd_X8_compares rfl hl.1 rfl (Nat.le_of_ble_eq_true rfl) ⟨Nat.le_of_ble_eq_true rfl, Nat.le_of_ble_eq_true rfl⟩ dX8_termHolds_23) (fun r_10 σ_9 H locs hw h => ?_)
  refine lv_aload_n X.1 X.2.1 dX8_termHolds_26 rfl (lv_at hl 0 rfl) ?_
  refine r_getR (ci := 8) X inw_8 h (hF.1 8 rfl).1 rfl rfl 5 (by decide) kw_286 rfl ((hF.1 8 rfl).2 5) dX8_termHolds_27 ?_
  refine lv_iload_n X.1 X.2.1 dX8_termHolds_30 rfl (lv_at hl 1 rfl) ?_
  obtain ⟨g_11, g_12, hw⟩ := hw
  refine r_zald (n := 1200) X h (hF.1 71 rfl).1 rfl (by decide) g_11 g_12 dX8_termHolds_31 ?_
  obtain ⟨g_13, g_14, hwt, hwf⟩ := hw
  refine j_cmp_eq (tgt := 39) X g_13 g_14 dX8_termHolds_32 (by decide) (fun c_15 => ?_) (fun c_15 => ?_)
  · have hw := hwt c_15
    refine j_iconst X dX8_termHolds_39 ?_
    exact k_ir X rfl h hw dX8_termHolds_40
  · have hw := hwf c_15
    refine j_iconst X dX8_termHolds_35 ?_
    refine lv_goto (tgt := 40) X.1 X.2.1 dX8_termHolds_36 (by decide) ?_
    exact k_ir X rfl h hw dX8_termHolds_40
end
section
variable {p : Program} {l : Launch} {e : Env} {s : State} {m : MethodId} {args : Array Value} {below : List Frame} {meth : Method} {c : Code} {D : va_G} {ct : Nat → ClassId} {ad : Nat → Nat → Nat} {L : List (Nat × Nat)} {φ : Nat → Nat → Nat → Bool} {N0 : Nat}
variable {Q : Int → St → Prop}
def wp_X8_holds_2 (Q : Int → St → Prop) : Nat → St → Int → Int → Prop
  | 0, _, _, _ => False
  | n + 1, σ, x1, x2 => 0 ≤ x1 ∧ x1 < 240 ∧ inR x2 ∧ inR (σ 70 0 (Int.toNat x1)) ∧ ((σ 70 0 (Int.toNat x1)) ≤ x2 → Q 1 σ) ∧ (¬ (σ 70 0 (Int.toNat x1)) ≤ x2 → wp_X8_termHolds σ ((x1 * 5) + x2) (fun r_6 σ_5 => inR r_6 ∧ (¬ r_6 = 0 → wp_X8_holds_2 Q n σ_5 x1 (x2 + 1)) ∧ (r_6 = 0 → Q 0 σ_5)))
set_option maxRecDepth 100000 in
set_option maxHeartbeats 4000000 in
theorem lb_X8_holds_2 (X : Cx p s m meth c args cX8_holds 3 (some .boolean) RX8 D ct L φ N0) : ∀ (n : Nat) (σ : St) (x1 : Int) (x2 : Int) (H : Heap) (locs : List Loc) (ls : Array Slot), wp_X8_holds_2 Q n σ x1 x2 → Hs D ct ad L φ N0 s.heap σ H locs → lv_has ls 3 [(0, .ref (ad 8 0)), (1, .int (iv x1)), (2, .int (iv x2))] → W p l e ({ frames := 2, cells := 0, slots := 0, locals := 43 } : Room) s m args below meth c H locs 0 0 (MQ below (Qi D ct ad L φ N0 Q) args s 0 0 (AA N0)) (F0 m 2 ls []) := by
  have hF := X.2.2.2.2.2.2.2.2.1
  intro n
  induction n with
  | zero => intro σ x1 x2 H locs ls hw; exact hw.elim
  | succ n ih =>
    intro σ x1 x2 H locs ls hw h hl
    unfold wp_X8_holds_2 at hw
    refine lv_iload_n X.1 X.2.1 dX8_holds_2 rfl (lv_at hl 2 rfl) ?_
    refine lv_aload_n X.1 X.2.1 dX8_holds_3 rfl (lv_at hl 0 rfl) ?_
    refine r_getR (ci := 8) X inw_8 h (hF.1 8 rfl).1 rfl rfl 4 (by decide) kw_285 rfl ((hF.1 8 rfl).2 4) dX8_holds_4 ?_
    refine lv_iload_n X.1 X.2.1 dX8_holds_7 rfl (lv_at hl 1 rfl) ?_
    obtain ⟨g_1, g_2, hw⟩ := hw
    refine r_iald (n := 240) X h (hF.1 70 rfl).1 rfl (by decide) g_1 g_2 dX8_holds_8 ?_
    obtain ⟨g_3, g_4, hwt, hwf⟩ := hw
    refine j_cmp_ge (tgt := 32) X g_3 g_4 dX8_holds_9 (by decide) (fun c_9 => ?_) (fun c_9 => ?_)
    · have hw := hwt c_9
      refine j_iconst X dX8_holds_32 ?_
      exact k_ir X rfl h hw dX8_holds_33
    · have hw := hwf c_9
      refine lv_aload_n X.1 X.2.1 dX8_holds_12 rfl (lv_at hl 0 rfl) ?_
      refine lv_iload_n X.1 X.2.1 dX8_holds_13 rfl (lv_at hl 1 rfl) ?_
      refine j_iconst X dX8_holds_14 ?_
      refine j_imul X dX8_holds_15 ?_
      refine lv_iload_n X.1 X.2.1 dX8_holds_16 rfl (lv_at hl 2 rfl) ?_
      refine j_iadd X dX8_holds_17 ?_
      refine k_i h (r_V (C := RX8) (ci := 8) (As := [.int (iv ((x1 * 5) + x2))]) (rest := []) X h (c_X8_termHolds l D ct ad L φ N0 σ ((x1 * 5) + x2) _ hw) rfl rfl ⟨Nat.le_of_ble_eq_true rfl, Nat.le_of_ble_eq_true rfl⟩ kw_682 kw_684 kw_8 kw_125 kw_685 ⟨rfl, pd_X8_termHolds⟩ (hF.1 8 rfl).1 rfl rfl rfl hl.1 rfl (Nat.le_of_ble_eq_true rfl) ⟨Nat.le_of_ble_eq_true rfl, Nat.le_of_ble_eq_true rfl⟩ dX8_holds_18) (fun r_6 σ_5 H locs hw h => ?_)
      obtain ⟨g_7, hwt, hwf⟩ := hw
      refine j_if_ne (tgt := 26) X g_7 dX8_holds_21 (by decide) (fun c_8 => ?_) (fun c_8 => ?_)
      · have hw := hwt c_8
        refine j_iinc (kk9 := 2) (lv' := [(2, .int (iv (x2 + 1))), (0, .ref (ad 8 0)), (1, .int (iv x1))]) X dX8_holds_26 hl rfl (by decide) rfl (fun ls hl => ?_)
        refine lv_goto (tgt := 2) X.1 X.2.1 dX8_holds_29 (by decide) ?_
        exact ih σ_5 x1 (x2 + 1) _ _ _ hw h (lv_sub hl [1, 2, 0] rfl)
      · have hw := hwf c_8
        refine j_iconst X dX8_holds_24 ?_
        exact k_ir X rfl h hw dX8_holds_25
theorem pd_X8_holds : yX8_holds.cls ≠ "java/lang/invoke/MethodHandle" ∧ yX8_holds.cls ≠ "java/lang/invoke/VarHandle" ∧ (parseMethodDescriptor yX8_holds.desc).map (fun d => d.parameters.length) = some 1 := by decide +kernel
def wp_X8_holds (σ : St) (x1 : Int) (Q : Int → St → Prop) : Prop := ∃ n2, wp_X8_holds_2 Q n2 σ x1 0
set_option maxRecDepth 100000 in
set_option maxHeartbeats 4000000 in
theorem c_X8_holds (l : Launch) (D : va_G) (ct : Nat → ClassId) (ad : Nat → Nat → Nat) (L : List (Nat × Nat)) (φ : Nat → Nat → Nat → Bool) (N0 : Nat) (σ : St) (x1 : Int) (Q : Int → St → Prop) (hw : wp_X8_holds σ x1 Q) : Met l yX8_holds (.code yX8_holds cX8_holds 3 (some .boolean) :: gw) ({ frames := 2, cells := 0, slots := 0, locals := 43 } : Room) (Pm D ct ad L φ N0 σ [.ref (ad 8 0), .int (iv x1)]) (Qi D ct ad L φ N0 Q) 0 0 (AA N0) := by
  refine m_of (by decide) (fun p e s m below meth c X hnm h => ?_)
  have hF := X.2.2.2.2.2.2.2.2.1
  have hl := lv_entry ([.ref (ad 8 0), .int (iv x1)]) (n := 3) (Nat.le_of_ble_eq_true rfl)
  rw [lg_entry_eq]
  generalize (lg_sl ([.ref (ad 8 0), .int (iv x1)]) ++ List.replicate (3 - (lg_sl ([.ref (ad 8 0), .int (iv x1)])).length) Slot.unset).toArray = ls at hl ⊢
  have hl : lv_has ls 3 [(0, .ref (ad 8 0)), (1, .int (iv x1))] := hl
  have h : Hs D ct ad L φ N0 s.heap σ s.heap [] := h
  unfold wp_X8_holds at hw
  refine j_iconst X dX8_holds_0 ?_
  refine lv_istore_n (lv' := [(2, .int (iv 0)), (0, .ref (ad 8 0)), (1, .int (iv x1))]) X.1 X.2.1 dX8_holds_1 rfl hl (by decide) rfl (fun ls hl => ?_)
  exact hw.elim (fun n2 hw => lb_X8_holds_2 X n2 σ x1 0 _ _ _ hw h (lv_sub hl [1, 2, 0] rfl))
end
section
variable {p : Program} {l : Launch} {e : Env} {s : State} {m : MethodId} {args : Array Value} {below : List Frame} {meth : Method} {c : Code} {D : va_G} {ct : Nat → ClassId} {ad : Nat → Nat → Nat} {L : List (Nat × Nat)} {φ : Nat → Nat → Nat → Bool} {N0 : Nat}
variable {Q : Int → St → Prop}
def wp_X8_barring_75 (K26 : St → Int → Int → Int → Int → Prop) (Q : Int → St → Prop) (σ : St) (x2 : Int) (x3 : Int) (x4 : Int) (x5 : Int) : Prop := K26 σ x2 x3 x4 (x5 + 1)
set_option maxRecDepth 100000 in
set_option maxHeartbeats 4000000 in
theorem lb_X8_barring_75 (X : Cx p s m meth c args cX8_barring 7 (some .int) RX8 D ct L φ N0) {K26 : St → Int → Int → Int → Int → Prop} (hK26 : ∀ (σ : St) (x2 : Int) (x3 : Int) (x4 : Int) (x5 : Int) (H : Heap) (locs : List Loc) (ls : Array Slot), K26 σ x2 x3 x4 x5 → Hs D ct ad L φ N0 s.heap σ H locs → lv_has ls 7 [(0, .ref (ad 8 0)), (2, .int (iv x2)), (3, .int (iv x3)), (4, .int (iv x4)), (5, .int (iv x5))] → W p l e ({ frames := 3, cells := 0, slots := 0, locals := 65 } : Room) s m args below meth c H locs 0 0 (MQ below (Qi D ct ad L φ N0 Q) args s 0 0 (AA N0)) (F0 m 26 ls [])) (σ : St) (x2 : Int) (x3 : Int) (x4 : Int) (x5 : Int) (H : Heap) (locs : List Loc) (ls : Array Slot) (hw : wp_X8_barring_75 K26 Q σ x2 x3 x4 x5) (h : Hs D ct ad L φ N0 s.heap σ H locs) (hl : lv_has ls 7 [(0, .ref (ad 8 0)), (2, .int (iv x2)), (3, .int (iv x3)), (4, .int (iv x4)), (5, .int (iv x5))]) : W p l e ({ frames := 3, cells := 0, slots := 0, locals := 65 } : Room) s m args below meth c H locs 0 0 (MQ below (Qi D ct ad L φ N0 Q) args s 0 0 (AA N0)) (F0 m 75 ls []) := by
  have hF := X.2.2.2.2.2.2.2.2.1
  unfold wp_X8_barring_75 at hw
  refine j_iinc (kk9 := 4) (lv' := [(5, .int (iv (x5 + 1))), (0, .ref (ad 8 0)), (2, .int (iv x2)), (3, .int (iv x3)), (4, .int (iv x4))]) X dX8_barring_75 hl rfl (by decide) rfl (fun ls hl => ?_)
  refine lv_goto (tgt := 26) X.1 X.2.1 dX8_barring_78 (by decide) ?_
  exact hK26 σ x2 x3 x4 (x5 + 1) _ _ _ hw h (lv_sub hl [1, 2, 3, 4, 0] rfl)
def wp_X8_barring_26 (Q : Int → St → Prop) : Nat → St → Int → Int → Int → Int → Prop
  | 0, _, _, _, _, _ => False
  | n + 1, σ, x2, x3, x4, x5 => inR x5 ∧ inR x4 ∧ (x4 ≤ x5 → Q (-1) σ) ∧ (¬ x4 ≤ x5 → ∀ v_3 : Int, v_3 = ((x3 * 12) + x5) → (0 ≤ v_3 ∧ v_3 < 240 ∧ inR (σ 68 0 (Int.toNat v_3)) ∧ (¬ (σ 68 0 (Int.toNat v_3)) = 0 → wp_X8_barring_75 (fun σ x2 x3 x4 x5 => wp_X8_barring_26 Q n σ x2 x3 x4 x5) Q σ x2 x3 x4 x5) ∧ ((σ 68 0 (Int.toNat v_3)) = 0 → 0 ≤ v_3 ∧ v_3 < 240 ∧ inR (σ 69 0 (Int.toNat v_3)) ∧ inR x2 ∧ (¬ (σ 69 0 (Int.toNat v_3)) = x2 → wp_X8_barring_75 (fun σ x2 x3 x4 x5 => wp_X8_barring_26 Q n σ x2 x3 x4 x5) Q σ x2 x3 x4 x5) ∧ ((σ 69 0 (Int.toNat v_3)) = x2 → wp_X8_holds σ v_3 (fun r_12 σ_11 => inR r_12 ∧ (r_12 = 0 → wp_X8_barring_75 (fun σ x2 x3 x4 x5 => wp_X8_barring_26 Q n σ x2 x3 x4 x5) Q σ_11 x2 x3 x4 x5) ∧ (¬ r_12 = 0 → Q x5 σ_11))))))
set_option maxRecDepth 100000 in
set_option maxHeartbeats 4000000 in
theorem lb_X8_barring_26 (X : Cx p s m meth c args cX8_barring 7 (some .int) RX8 D ct L φ N0) : ∀ (n : Nat) (σ : St) (x2 : Int) (x3 : Int) (x4 : Int) (x5 : Int) (H : Heap) (locs : List Loc) (ls : Array Slot), wp_X8_barring_26 Q n σ x2 x3 x4 x5 → Hs D ct ad L φ N0 s.heap σ H locs → lv_has ls 7 [(0, .ref (ad 8 0)), (2, .int (iv x2)), (3, .int (iv x3)), (4, .int (iv x4)), (5, .int (iv x5))] → W p l e ({ frames := 3, cells := 0, slots := 0, locals := 65 } : Room) s m args below meth c H locs 0 0 (MQ below (Qi D ct ad L φ N0 Q) args s 0 0 (AA N0)) (F0 m 26 ls []) := by
  have hF := X.2.2.2.2.2.2.2.2.1
  intro n
  induction n with
  | zero => intro σ x2 x3 x4 x5 H locs ls hw; exact hw.elim
  | succ n ih =>
    intro σ x2 x3 x4 x5 H locs ls hw h hl
    unfold wp_X8_barring_26 at hw
    refine lv_iload X.1 X.2.1 dX8_barring_26 (lv_at hl 4 rfl) ?_
    refine lv_iload X.1 X.2.1 dX8_barring_28 (lv_at hl 3 rfl) ?_
    obtain ⟨g_1, g_2, hwt, hwf⟩ := hw
    refine j_cmp_ge (tgt := 81) X g_1 g_2 dX8_barring_30 (by decide) (fun c_17 => ?_) (fun c_17 => ?_)
    · have hw := hwt c_17
      refine j_iconst X dX8_barring_81 ?_
      exact k_ir X rfl h hw dX8_barring_82
    · have hw := hwf c_17
      refine lv_iload_n X.1 X.2.1 dX8_barring_33 rfl (lv_at hl 2 rfl) ?_
      refine j_bipush X dX8_barring_34 (by decide) ?_
      refine j_imul X dX8_barring_36 ?_
      refine lv_iload X.1 X.2.1 dX8_barring_37 (lv_at hl 4 rfl) ?_
      refine j_iadd X dX8_barring_39 ?_
      refine j_bind (fun v_3 ev_3 => ?_)
      have hw := hw v_3 ev_3
      refine lv_istore (lv' := [(6, .int (iv v_3)), (0, .ref (ad 8 0)), (2, .int (iv x2)), (3, .int (iv x3)), (4, .int (iv x4)), (5, .int (iv x5))]) X.1 X.2.1 dX8_barring_40 hl (by decide) rfl (fun ls hl => ?_)
      refine lv_aload_n X.1 X.2.1 dX8_barring_42 rfl (lv_at hl 1 rfl) ?_
      refine r_getR (ci := 8) X inw_8 h (hF.1 8 rfl).1 rfl rfl 2 (by decide) kw_283 rfl ((hF.1 8 rfl).2 2) dX8_barring_43 ?_
      refine lv_iload X.1 X.2.1 dX8_barring_46 (lv_at hl 0 rfl) ?_
      obtain ⟨g_4, g_5, hw⟩ := hw
      refine r_iald (n := 240) X h (hF.1 68 rfl).1 rfl (by decide) g_4 g_5 dX8_barring_48 ?_
      obtain ⟨g_6, hwt, hwf⟩ := hw
      refine j_if_ne (tgt := 75) X g_6 dX8_barring_49 (by decide) (fun c_16 => ?_) (fun c_16 => ?_)
      · have hw := hwt c_16
        exact lb_X8_barring_75 X ih σ x2 x3 x4 x5 _ _ _ hw h (lv_sub hl [1, 2, 3, 4, 5] rfl)
      · have hw := hwf c_16
        refine lv_aload_n X.1 X.2.1 dX8_barring_52 rfl (lv_at hl 1 rfl) ?_
        refine r_getR (ci := 8) X inw_8 h (hF.1 8 rfl).1 rfl rfl 3 (by decide) kw_284 rfl ((hF.1 8 rfl).2 3) dX8_barring_53 ?_
        refine lv_iload X.1 X.2.1 dX8_barring_56 (lv_at hl 0 rfl) ?_
        obtain ⟨g_7, g_8, hw⟩ := hw
        refine r_iald (n := 240) X h (hF.1 69 rfl).1 rfl (by decide) g_7 g_8 dX8_barring_58 ?_
        refine lv_iload_n X.1 X.2.1 dX8_barring_59 rfl (lv_at hl 2 rfl) ?_
        obtain ⟨g_9, g_10, hwt, hwf⟩ := hw
        refine j_cmp_ne (tgt := 75) X g_9 g_10 dX8_barring_60 (by decide) (fun c_15 => ?_) (fun c_15 => ?_)
        · have hw := hwt c_15
          exact lb_X8_barring_75 X ih σ x2 x3 x4 x5 _ _ _ hw h (lv_sub hl [1, 2, 3, 4, 5] rfl)
        · have hw := hwf c_15
          refine lv_aload_n X.1 X.2.1 dX8_barring_63 rfl (lv_at hl 1 rfl) ?_
          refine lv_iload X.1 X.2.1 dX8_barring_64 (lv_at hl 0 rfl) ?_
          refine k_i h (r_V (C := RX8) (ci := 8) (As := [.int (iv v_3)]) (rest := []) X h (c_X8_holds l D ct ad L φ N0 σ v_3 _ hw) rfl rfl ⟨Nat.le_of_ble_eq_true rfl, Nat.le_of_ble_eq_true rfl⟩ kw_678 kw_680 kw_7 kw_125 kw_681 ⟨rfl, pd_X8_holds⟩ (hF.1 8 rfl).1 rfl rfl rfl hl.1 rfl (Nat.le_of_ble_eq_true rfl) ⟨Nat.le_of_ble_eq_true rfl, Nat.le_of_ble_eq_true rfl⟩ dX8_barring_66) (fun r_12 σ_11 H locs hw h => ?_)
          obtain ⟨g_13, hwt, hwf⟩ := hw
          refine j_if_eq (tgt := 75) X g_13 dX8_barring_69 (by decide) (fun c_14 => ?_) (fun c_14 => ?_)
          · have hw := hwt c_14
            exact lb_X8_barring_75 X ih σ_11 x2 x3 x4 x5 _ _ _ hw h (lv_sub hl [1, 2, 3, 4, 5] rfl)
          · have hw := hwf c_14
            refine lv_iload X.1 X.2.1 dX8_barring_72 (lv_at hl 5 rfl) ?_
            exact k_ir X rfl h hw dX8_barring_74
def wp_X8_barring_21 (Q : Int → St → Prop) (σ : St) (x2 : Int) (x3 : Int) (y0 : Int) : Prop := ∃ n26, wp_X8_barring_26 Q n26 σ x2 x3 y0 0
set_option maxRecDepth 100000 in
set_option maxHeartbeats 4000000 in
theorem lb_X8_barring_21 (X : Cx p s m meth c args cX8_barring 7 (some .int) RX8 D ct L φ N0) (σ : St) (x2 : Int) (x3 : Int) (y0 : Int) (H : Heap) (locs : List Loc) (ls : Array Slot) (hw : wp_X8_barring_21 Q σ x2 x3 y0) (h : Hs D ct ad L φ N0 s.heap σ H locs) (hl : lv_has ls 7 [(0, .ref (ad 8 0)), (2, .int (iv x2)), (3, .int (iv x3))]) : W p l e ({ frames := 3, cells := 0, slots := 0, locals := 65 } : Room) s m args below meth c H locs 0 0 (MQ below (Qi D ct ad L φ N0 Q) args s 0 0 (AA N0)) (F0 m 21 ls [.int (iv y0)]) := by
  have hF := X.2.2.2.2.2.2.2.2.1
  unfold wp_X8_barring_21 at hw
  refine lv_istore (lv' := [(4, .int (iv y0)), (0, .ref (ad 8 0)), (2, .int (iv x2)), (3, .int (iv x3))]) X.1 X.2.1 dX8_barring_21 hl (by decide) rfl (fun ls hl => ?_)
  refine j_iconst X dX8_barring_23 ?_
  refine lv_istore (lv' := [(5, .int (iv 0)), (4, .int (iv y0)), (0, .ref (ad 8 0)), (2, .int (iv x2)), (3, .int (iv x3))]) X.1 X.2.1 dX8_barring_24 hl (by decide) rfl (fun ls hl => ?_)
  exact hw.elim (fun n26 hw => lb_X8_barring_26 X n26 σ x2 x3 y0 0 _ _ _ hw h (lv_sub hl [2, 3, 4, 1, 0] rfl))
theorem pd_X8_barring : yX8_barring.cls ≠ "java/lang/invoke/MethodHandle" ∧ yX8_barring.cls ≠ "java/lang/invoke/VarHandle" ∧ (parseMethodDescriptor yX8_barring.desc).map (fun d => d.parameters.length) = some 2 := by decide +kernel
def wp_X8_barring (σ : St) (x1 : Int) (x2 : Int) (Q : Int → St → Prop) : Prop := wp_X8_textOn σ x1 (fun r_19 σ_18 => inR r_19 ∧ (¬ r_19 = (-1) → 0 ≤ r_19 ∧ r_19 < 20 ∧ wp_X8_barring_21 Q σ_18 x2 r_19 (σ_18 67 0 (Int.toNat r_19))) ∧ (r_19 = (-1) → wp_X8_barring_21 Q σ_18 x2 r_19 0))
set_option maxRecDepth 100000 in
set_option maxHeartbeats 4000000 in
theorem c_X8_barring (l : Launch) (D : va_G) (ct : Nat → ClassId) (ad : Nat → Nat → Nat) (L : List (Nat × Nat)) (φ : Nat → Nat → Nat → Bool) (N0 : Nat) (σ : St) (x1 : Int) (x2 : Int) (Q : Int → St → Prop) (hw : wp_X8_barring σ x1 x2 Q) : Met l yX8_barring (.code yX8_barring cX8_barring 7 (some .int) :: gw) ({ frames := 3, cells := 0, slots := 0, locals := 65 } : Room) (Pm D ct ad L φ N0 σ [.ref (ad 8 0), .int (iv x1), .int (iv x2)]) (Qi D ct ad L φ N0 Q) 0 0 (AA N0) := by
  refine m_of (by decide) (fun p e s m below meth c X hnm h => ?_)
  have hF := X.2.2.2.2.2.2.2.2.1
  have hl := lv_entry ([.ref (ad 8 0), .int (iv x1), .int (iv x2)]) (n := 7) (Nat.le_of_ble_eq_true rfl)
  rw [lg_entry_eq]
  generalize (lg_sl ([.ref (ad 8 0), .int (iv x1), .int (iv x2)]) ++ List.replicate (7 - (lg_sl ([.ref (ad 8 0), .int (iv x1), .int (iv x2)])).length) Slot.unset).toArray = ls at hl ⊢
  have hl : lv_has ls 7 [(0, .ref (ad 8 0)), (1, .int (iv x1)), (2, .int (iv x2))] := hl
  have h : Hs D ct ad L φ N0 s.heap σ s.heap [] := h
  unfold wp_X8_barring at hw
  refine lv_aload_n X.1 X.2.1 dX8_barring_0 rfl (lv_at hl 0 rfl) ?_
  refine lv_iload_n X.1 X.2.1 dX8_barring_1 rfl (lv_at hl 1 rfl) ?_
  refine k_i h (r_V (C := RX8) (ci := 8) (As := [.int (iv x1)]) (rest := []) X h (c_X8_textOn l D ct ad L φ N0 σ x1 _ hw) rfl rfl ⟨Nat.le_of_ble_eq_true rfl, Nat.le_of_ble_eq_true rfl⟩ kw_674 kw_676 kw_6 kw_125 kw_677 ⟨rfl, pd_X8_textOn⟩ (hF.1 8 rfl).1 rfl rfl rfl hl.1 rfl (Nat.le_of_ble_eq_true rfl) ⟨Nat.le_of_ble_eq_true rfl, Nat.le_of_ble_eq_true rfl⟩ dX8_barring_2) (fun r_19 σ_18 H locs hw h => ?_)
  refine lv_istore_n (lv' := [(3, .int (iv r_19)), (0, .ref (ad 8 0)), (1, .int (iv x1)), (2, .int (iv x2))]) X.1 X.2.1 dX8_barring_5 rfl hl (by decide) rfl (fun ls hl => ?_)
  refine lv_iload_n X.1 X.2.1 dX8_barring_6 rfl (lv_at hl 0 rfl) ?_
  refine j_iconst X dX8_barring_7 ?_
  obtain ⟨g_20, hwt, hwf⟩ := hw
  refine j_cmp_ne (tgt := 15) X g_20 ⟨by decide, by decide⟩ dX8_barring_8 (by decide) (fun c_23 => ?_) (fun c_23 => ?_)
  · have hw := hwt c_23
    refine lv_aload_n X.1 X.2.1 dX8_barring_15 rfl (lv_at hl 1 rfl) ?_
    refine r_getR (ci := 8) X inw_8 h (hF.1 8 rfl).1 rfl rfl 1 (by decide) kw_282 rfl ((hF.1 8 rfl).2 1) dX8_barring_16 ?_
    refine lv_iload_n X.1 X.2.1 dX8_barring_19 rfl (lv_at hl 0 rfl) ?_
    obtain ⟨g_21, g_22, hw⟩ := hw
    refine r_iald (n := 20) X h (hF.1 67 rfl).1 rfl (by decide) g_21 g_22 dX8_barring_20 ?_
    exact lb_X8_barring_21 X σ_18 x2 r_19 (σ_18 67 0 (Int.toNat r_19)) _ _ _ hw h (lv_sub hl [1, 3, 0] rfl)
  · have hw := hwf c_23
    refine j_iconst X dX8_barring_11 ?_
    refine lv_goto (tgt := 21) X.1 X.2.1 dX8_barring_12 (by decide) ?_
    exact lb_X8_barring_21 X σ_18 x2 r_19 0 _ _ _ hw h (lv_sub hl [1, 3, 0] rfl)
end
section
variable {p : Program} {l : Launch} {e : Env} {s : State} {m : MethodId} {args : Array Value} {below : List Frame} {meth : Method} {c : Code} {D : va_G} {ct : Nat → ClassId} {ad : Nat → Nat → Nat} {L : List (Nat × Nat)} {φ : Nat → Nat → Nat → Bool} {N0 : Nat}
variable {Q : St → Prop}
def wp_X9_append_3 (Q : St → Prop) : Nat → St → Int → Int → Prop
  | 0, _, _, _ => False
  | n + 1, σ, x1, x2 => inR x2 ∧ (x2 < 0 → Q σ) ∧ (¬ x2 < 0 → inR (σ 9 0 1) ∧ (300 ≤ (σ 9 0 1) → Q σ) ∧ (¬ 300 ≤ (σ 9 0 1) → 0 ≤ (σ 9 0 1) ∧ (σ 9 0 1) < 300 ∧ ∀ σ_5 : St, σ_5 = st σ 76 0 (Int.toNat (σ 9 0 1)) (i_iand (i_iushr x1 x2) 255) → (∀ σ_6 : St, σ_6 = st σ_5 9 0 1 ((σ_5 9 0 1) + 1) → (wp_X9_append_3 Q n σ_6 x1 (x2 + (-8))))))
set_option maxRecDepth 100000 in
set_option maxHeartbeats 4000000 in
theorem lb_X9_append_3 (X : Cx p s m meth c args cX9_append 3 none RX9 D ct L φ N0) : ∀ (n : Nat) (σ : St) (x1 : Int) (x2 : Int) (H : Heap) (locs : List Loc) (ls : Array Slot), wp_X9_append_3 Q n σ x1 x2 → Hs D ct ad L φ N0 s.heap σ H locs → lv_has ls 3 [(0, .ref (ad 9 0)), (1, .int (iv x1)), (2, .int (iv x2))] → W p l e ({ frames := 0, cells := 0, slots := 0, locals := 0 } : Room) s m args below meth c H locs 0 0 (MQ below (Qv D ct ad L φ N0 Q) args s 0 0 (AA N0)) (F0 m 3 ls []) := by
  have hF := X.2.2.2.2.2.2.2.2.1
  intro n
  induction n with
  | zero => intro σ x1 x2 H locs ls hw; exact hw.elim
  | succ n ih =>
    intro σ x1 x2 H locs ls hw h hl
    unfold wp_X9_append_3 at hw
    refine lv_iload_n X.1 X.2.1 dX9_append_3 rfl (lv_at hl 2 rfl) ?_
    obtain ⟨g_1, hwt, hwf⟩ := hw
    refine j_if_lt (tgt := 49) X g_1 dX9_append_4 (by decide) (fun c_8 => ?_) (fun c_8 => ?_)
    · have hw := hwt c_8
      exact k_vr X h hw dX9_append_49
    · have hw := hwf c_8
      refine lv_aload_n X.1 X.2.1 dX9_append_7 rfl (lv_at hl 0 rfl) ?_
      refine r_get (ci := 9) X inw_9 h (hF.1 9 rfl).1 rfl rfl 1 (by decide) kw_257 rfl dX9_append_8 ?_
      refine j_sipush X dX9_append_11 (by decide) ?_
      obtain ⟨g_2, hwt, hwf⟩ := hw
      refine j_cmp_ge (tgt := 49) X g_2 ⟨by decide, by decide⟩ dX9_append_14 (by decide) (fun c_7 => ?_) (fun c_7 => ?_)
      · have hw := hwt c_7
        exact k_vr X h hw dX9_append_49
      · have hw := hwf c_7
        refine lv_aload_n X.1 X.2.1 dX9_append_17 rfl (lv_at hl 0 rfl) ?_
        refine r_getR (ci := 9) X inw_9 h (hF.1 9 rfl).1 rfl rfl 0 (by decide) kw_256 rfl ((hF.1 9 rfl).2 0) dX9_append_18 ?_
        refine lv_aload_n X.1 X.2.1 dX9_append_21 rfl (lv_at hl 0 rfl) ?_
        refine r_get (ci := 9) X inw_9 h (hF.1 9 rfl).1 rfl rfl 1 (by decide) kw_257 rfl dX9_append_22 ?_
        refine lv_iload_n X.1 X.2.1 dX9_append_25 rfl (lv_at hl 1 rfl) ?_
        refine lv_iload_n X.1 X.2.1 dX9_append_26 rfl (lv_at hl 2 rfl) ?_
        refine j_iushr X dX9_append_27 ?_
        refine j_sipush X dX9_append_28 (by decide) ?_
        refine j_iand X dX9_append_31 ?_
        obtain ⟨g_3, g_4, hw⟩ := hw
        refine r_iast (n := 300) X h (hF.1 76 rfl).1 (fun _ => rfl) (by decide) g_3 g_4 rfl dX9_append_32 (fun H locs h => ?_)
        obtain ⟨σ_5, eσ_5⟩ : ∃ z : St, z = st σ 76 0 (Int.toNat (σ 9 0 1)) (i_iand (i_iushr x1 x2) 255) := ⟨_, rfl⟩
        rw [← eσ_5] at h
        have hw := hw σ_5 eσ_5
        refine lv_aload_n X.1 X.2.1 dX9_append_33 rfl (lv_at hl 0 rfl) ?_
        refine lv_dup X.1 X.2.1 dX9_append_34 rfl ?_
        refine r_get (ci := 9) X inw_9 h (hF.1 9 rfl).1 rfl rfl 1 (by decide) kw_257 rfl dX9_append_35 ?_
        refine j_iconst X dX9_append_38 ?_
        refine j_iadd X dX9_append_39 ?_
        refine r_put (ci := 9) X inw_9 tyX9 tyX9_ok nmX9 h (hF.1 9 rfl).1 rfl rfl 1 (by decide) kw_257 rfl rfl rfl (Nat.le_of_ble_eq_true rfl) rfl rfl dX9_append_40 (fun H locs h => ?_)
        obtain ⟨σ_6, eσ_6⟩ : ∃ z : St, z = st σ_5 9 0 1 ((σ_5 9 0 1) + 1) := ⟨_, rfl⟩
        rw [← eσ_6] at h
        have hw := hw σ_6 eσ_6
        refine j_iinc (kk9 := 2) (lv' := [(2, .int (iv (x2 + (-8)))), (0, .ref (ad 9 0)), (1, .int (iv x1))]) X dX9_append_43 hl rfl (by decide) rfl (fun ls hl => ?_)
        refine lv_goto (tgt := 3) X.1 X.2.1 dX9_append_46 (by decide) ?_
        exact ih σ_6 x1 (x2 + (-8)) _ _ _ hw h (lv_sub hl [1, 2, 0] rfl)
theorem pd_X9_append : yX9_append.cls ≠ "java/lang/invoke/MethodHandle" ∧ yX9_append.cls ≠ "java/lang/invoke/VarHandle" ∧ (parseMethodDescriptor yX9_append.desc).map (fun d => d.parameters.length) = some 1 := by decide +kernel
def wp_X9_append (σ : St) (x1 : Int) (Q : St → Prop) : Prop := ∃ n3, wp_X9_append_3 Q n3 σ x1 24
set_option maxRecDepth 100000 in
set_option maxHeartbeats 4000000 in
theorem c_X9_append (l : Launch) (D : va_G) (ct : Nat → ClassId) (ad : Nat → Nat → Nat) (L : List (Nat × Nat)) (φ : Nat → Nat → Nat → Bool) (N0 : Nat) (σ : St) (x1 : Int) (Q : St → Prop) (hw : wp_X9_append σ x1 Q) : Met l yX9_append (.code yX9_append cX9_append 3 none :: gw) ({ frames := 0, cells := 0, slots := 0, locals := 0 } : Room) (Pm D ct ad L φ N0 σ [.ref (ad 9 0), .int (iv x1)]) (Qv D ct ad L φ N0 Q) 0 0 (AA N0) := by
  refine m_of (by decide) (fun p e s m below meth c X hnm h => ?_)
  have hF := X.2.2.2.2.2.2.2.2.1
  have hl := lv_entry ([.ref (ad 9 0), .int (iv x1)]) (n := 3) (Nat.le_of_ble_eq_true rfl)
  rw [lg_entry_eq]
  generalize (lg_sl ([.ref (ad 9 0), .int (iv x1)]) ++ List.replicate (3 - (lg_sl ([.ref (ad 9 0), .int (iv x1)])).length) Slot.unset).toArray = ls at hl ⊢
  have hl : lv_has ls 3 [(0, .ref (ad 9 0)), (1, .int (iv x1))] := hl
  have h : Hs D ct ad L φ N0 s.heap σ s.heap [] := h
  unfold wp_X9_append at hw
  refine j_bipush X dX9_append_0 (by decide) ?_
  refine lv_istore_n (lv' := [(2, .int (iv 24)), (0, .ref (ad 9 0)), (1, .int (iv x1))]) X.1 X.2.1 dX9_append_2 rfl hl (by decide) rfl (fun ls hl => ?_)
  exact hw.elim (fun n3 hw => lb_X9_append_3 X n3 σ x1 24 _ _ _ hw h (lv_sub hl [1, 2, 0] rfl))
end
section
variable {p : Program} {l : Launch} {e : Env} {s : State} {m : MethodId} {args : Array Value} {below : List Frame} {meth : Method} {c : Code} {D : va_G} {ct : Nat → ClassId} {ad : Nat → Nat → Nat} {L : List (Nat × Nat)} {φ : Nat → Nat → Nat → Bool} {N0 : Nat}
variable {Q : Int → St → Prop}
def wp_X10_streamBears_14 (Q : Int → St → Prop) (σ : St) (j0 : Nat) (x1 : Int) (y0 : Int) : Prop := σ 50 10 j0 ≠ 0 ∧ inR (σ 10 j0 4) ∧ inR (σ 7 0 3) ∧ (¬ (σ 10 j0 4) = (σ 7 0 3) → Q ((y0 * x1) + 0) σ) ∧ ((σ 10 j0 4) = (σ 7 0 3) → Q ((y0 * x1) + 40) σ)
set_option maxRecDepth 100000 in
set_option maxHeartbeats 4000000 in
theorem lb_X10_streamBears_14 (X : Cx p s m meth c args cX10_streamBears 4 (some .int) RX10 D ct L φ N0) (σ : St) (j0 : Nat) (x1 : Int) (y0 : Int) (H : Heap) (locs : List Loc) (ls : Array Slot) (hw : wp_X10_streamBears_14 Q σ j0 x1 y0) (h : Hs D ct ad L φ N0 s.heap σ H locs) (hl : lv_has ls 4 [(0, .ref (ad 10 j0)), (1, .int (iv x1)), (2, .ref (ad 7 0))]) : W p l e ({ frames := 1, cells := 0, slots := 0, locals := 20 } : Room) s m args below meth c H locs 0 0 (MQ below (Qi D ct ad L φ N0 Q) args s 0 0 (AA N0)) (F0 m 14 ls [.int (iv y0)]) := by
  have hF := X.2.2.2.2.2.2.2.2.1
  unfold wp_X10_streamBears_14 at hw
  refine lv_istore_n (lv' := [(3, .int (iv y0)), (0, .ref (ad 10 j0)), (1, .int (iv x1)), (2, .ref (ad 7 0))]) X.1 X.2.1 dX10_streamBears_14 rfl hl (by decide) rfl (fun ls hl => ?_)
  refine lv_iload_n X.1 X.2.1 dX10_streamBears_15 rfl (lv_at hl 0 rfl) ?_
  refine lv_iload_n X.1 X.2.1 dX10_streamBears_16 rfl (lv_at hl 2 rfl) ?_
  refine j_imul X dX10_streamBears_17 ?_
  refine lv_aload_n X.1 X.2.1 dX10_streamBears_18 rfl (lv_at hl 1 rfl) ?_
  obtain ⟨g_1, hw⟩ := hw
  refine r_get (ci := 10) X inw_10 h (h.2.2.2.1 j0 g_1) rfl rfl 4 (by decide) kw_826 rfl dX10_streamBears_19 ?_
  refine lv_aload_n X.1 X.2.1 dX10_streamBears_22 rfl (lv_at hl 3 rfl) ?_
  refine r_getN (ci := 7) X inw_7 h (hF.1 7 rfl).1 rfl rfl 3 (by decide) kw_163 rfl dX10_streamBears_23 ?_
  obtain ⟨g_2, g_3, hwt, hwf⟩ := hw
  refine j_cmp_ne (tgt := 34) X g_2 g_3 dX10_streamBears_26 (by decide) (fun c_4 => ?_) (fun c_4 => ?_)
  · have hw := hwt c_4
    refine j_iconst X dX10_streamBears_34 ?_
    refine j_iadd X dX10_streamBears_35 ?_
    exact k_ir X rfl h hw dX10_streamBears_36
  · have hw := hwf c_4
    refine j_bipush X dX10_streamBears_29 (by decide) ?_
    refine lv_goto (tgt := 35) X.1 X.2.1 dX10_streamBears_31 (by decide) ?_
    refine j_iadd X dX10_streamBears_35 ?_
    exact k_ir X rfl h hw dX10_streamBears_36
theorem pd_X10_streamBears : yX10_streamBears.cls ≠ "java/lang/invoke/MethodHandle" ∧ yX10_streamBears.cls ≠ "java/lang/invoke/VarHandle" ∧ (parseMethodDescriptor yX10_streamBears.desc).map (fun d => d.parameters.length) = some 2 := by decide +kernel
def wp_X10_streamBears (σ : St) (j0 : Nat) (x1 : Int) (Q : Int → St → Prop) : Prop := wp_X7_season σ (fun r_6 σ_5 => inR r_6 ∧ (¬ r_6 = 1 → wp_X10_streamBears_14 Q σ_5 j0 x1 3) ∧ (r_6 = 1 → wp_X10_streamBears_14 Q σ_5 j0 x1 12))
set_option maxRecDepth 100000 in
set_option maxHeartbeats 4000000 in
theorem c_X10_streamBears (l : Launch) (D : va_G) (ct : Nat → ClassId) (ad : Nat → Nat → Nat) (L : List (Nat × Nat)) (φ : Nat → Nat → Nat → Bool) (N0 : Nat) (σ : St) (j0 : Nat) (x1 : Int) (Q : Int → St → Prop) (hw : wp_X10_streamBears σ j0 x1 Q) : Met l yX10_streamBears (.code yX10_streamBears cX10_streamBears 4 (some .int) :: gw) ({ frames := 1, cells := 0, slots := 0, locals := 20 } : Room) (Pm D ct ad L φ N0 σ [.ref (ad 10 j0), .int (iv x1), .ref (ad 7 0)]) (Qi D ct ad L φ N0 Q) 0 0 (AA N0) := by
  refine m_of (by decide) (fun p e s m below meth c X hnm h => ?_)
  have hF := X.2.2.2.2.2.2.2.2.1
  have hl := lv_entry ([.ref (ad 10 j0), .int (iv x1), .ref (ad 7 0)]) (n := 4) (Nat.le_of_ble_eq_true rfl)
  rw [lg_entry_eq]
  generalize (lg_sl ([.ref (ad 10 j0), .int (iv x1), .ref (ad 7 0)]) ++ List.replicate (4 - (lg_sl ([.ref (ad 10 j0), .int (iv x1), .ref (ad 7 0)])).length) Slot.unset).toArray = ls at hl ⊢
  have hl : lv_has ls 4 [(0, .ref (ad 10 j0)), (1, .int (iv x1)), (2, .ref (ad 7 0))] := hl
  have h : Hs D ct ad L φ N0 s.heap σ s.heap [] := h
  unfold wp_X10_streamBears at hw
  refine lv_aload_n X.1 X.2.1 dX10_streamBears_0 rfl (lv_at hl 2 rfl) ?_
  refine k_i h (r_V (C := RX7) (ci := 7) (As := []) (rest := []) X h (c_X7_season l D ct ad L φ N0 σ _ hw) rfl rfl ⟨Nat.le_of_ble_eq_true rfl, Nat.le_of_ble_eq_true rfl⟩ kw_877 kw_658 kw_659 kw_121 kw_660 ⟨rfl, pd_X7_season⟩ (hF.1 7 rfl).1 rfl rfl rfl hl.1 rfl (Nat.le_of_ble_eq_true rfl) ⟨Nat.le_of_ble_eq_true rfl, Nat.le_of_ble_eq_true rfl⟩ dX10_streamBears_1) (fun r_6 σ_5 H locs hw h => ?_)
  refine j_iconst X dX10_streamBears_4 ?_
  obtain ⟨g_7, hwt, hwf⟩ := hw
  refine j_cmp_ne (tgt := 13) X g_7 ⟨by decide, by decide⟩ dX10_streamBears_5 (by decide) (fun c_8 => ?_) (fun c_8 => ?_)
  · have hw := hwt c_8
    refine j_iconst X dX10_streamBears_13 ?_
    exact lb_X10_streamBears_14 X σ_5 j0 x1 3 _ _ _ hw h (lv_sub hl [0, 1, 2] rfl)
  · have hw := hwf c_8
    refine j_bipush X dX10_streamBears_8 (by decide) ?_
    refine lv_goto (tgt := 14) X.1 X.2.1 dX10_streamBears_10 (by decide) ?_
    exact lb_X10_streamBears_14 X σ_5 j0 x1 12 _ _ _ hw h (lv_sub hl [0, 1, 2] rfl)
end
section
variable {p : Program} {l : Launch} {e : Env} {s : State} {m : MethodId} {args : Array Value} {below : List Frame} {meth : Method} {c : Code} {D : va_G} {ct : Nat → ClassId} {ad : Nat → Nat → Nat} {L : List (Nat × Nat)} {φ : Nat → Nat → Nat → Bool} {N0 : Nat}
variable {Q : Int → St → Prop}
theorem pd_X11_isCell : yX11_isCell.cls ≠ "java/lang/invoke/MethodHandle" ∧ yX11_isCell.cls ≠ "java/lang/invoke/VarHandle" ∧ (parseMethodDescriptor yX11_isCell.desc).map (fun d => d.parameters.length) = some 1 := by decide +kernel
def wp_X11_isCell (σ : St) (x0 : Int) (Q : Int → St → Prop) : Prop := wp_X11_within σ x0 0 63 (fun r_2 σ_1 => (r_2 = 0 ∨ r_2 = 1) ∧ Q r_2 σ_1)
set_option maxRecDepth 100000 in
set_option maxHeartbeats 4000000 in
theorem c_X11_isCell (l : Launch) (D : va_G) (ct : Nat → ClassId) (ad : Nat → Nat → Nat) (L : List (Nat × Nat)) (φ : Nat → Nat → Nat → Bool) (N0 : Nat) (σ : St) (x0 : Int) (Q : Int → St → Prop) (hw : wp_X11_isCell σ x0 Q) : Met l yX11_isCell (.code yX11_isCell cX11_isCell 1 (some .boolean) :: gw) ({ frames := 1, cells := 0, slots := 0, locals := 22 } : Room) (Pm D ct ad L φ N0 σ [.int (iv x0)]) (Qi D ct ad L φ N0 Q) 0 0 (AA N0) := by
  refine m_of (by decide) (fun p e s m below meth c X hnm h => ?_)
  have hF := X.2.2.2.2.2.2.2.2.1
  have hl := lv_entry ([.int (iv x0)]) (n := 1) (Nat.le_of_ble_eq_true rfl)
  rw [lg_entry_eq]
  generalize (lg_sl ([.int (iv x0)]) ++ List.replicate (1 - (lg_sl ([.int (iv x0)])).length) Slot.unset).toArray = ls at hl ⊢
  have hl : lv_has ls 1 [(0, .int (iv x0))] := hl
  have h : Hs D ct ad L φ N0 s.heap σ s.heap [] := h
  unfold wp_X11_isCell at hw
  refine lv_iload_n X.1 X.2.1 dX11_isCell_0 rfl (lv_at hl 0 rfl) ?_
  refine j_iconst X dX11_isCell_1 ?_
  refine j_bipush X dX11_isCell_2 (by decide) ?_
  refine k_i h (r_S (As := [.int (iv x0), .int (iv 0), .int (iv 63)]) (rest := []) X h (c_X11_within l D ct ad L φ N0 σ x0 0 63 _ hw) rfl rfl ⟨Nat.le_of_ble_eq_true rfl, Nat.le_of_ble_eq_true rfl⟩ kw_526 kw_527 kw_120 kw_528 pd_X11_within rfl hl.1 rfl (Nat.le_of_ble_eq_true rfl) ⟨Nat.le_of_ble_eq_true rfl, Nat.le_of_ble_eq_true rfl⟩ dX11_isCell_4) (fun r_2 σ_1 H locs hw h => ?_)
  obtain ⟨g_3, hw⟩ := hw
  exact k_ir X (nb_n g_3) h hw dX11_isCell_7
end
section
variable {p : Program} {l : Launch} {e : Env} {s : State} {m : MethodId} {args : Array Value} {below : List Frame} {meth : Method} {c : Code} {D : va_G} {ct : Nat → ClassId} {ad : Nat → Nat → Nat} {L : List (Nat × Nat)} {φ : Nat → Nat → Nat → Bool} {N0 : Nat}
variable {Q : Int → St → Prop}
theorem pd_X11_cell : yX11_cell.cls ≠ "java/lang/invoke/MethodHandle" ∧ yX11_cell.cls ≠ "java/lang/invoke/VarHandle" ∧ (parseMethodDescriptor yX11_cell.desc).map (fun d => d.parameters.length) = some 2 := by decide +kernel
def wp_X11_cell (σ : St) (x1 : Int) (x2 : Int) (Q : Int → St → Prop) : Prop := wp_X11_isCell σ x1 (fun r_2 σ_1 => inR r_2 ∧ (r_2 = 0 → Q 0 σ_1) ∧ (¬ r_2 = 0 → wp_X11_within σ_1 x2 0 40 (fun r_5 σ_4 => inR r_5 ∧ (¬ r_5 = 0 → 0 ≤ x1 ∧ x1 < 64 ∧ ∀ σ_9 : St, σ_9 = st σ_4 28 0 (Int.toNat x1) x2 → (Q 1 σ_9)) ∧ (r_5 = 0 → Q 0 σ_4))))
set_option maxRecDepth 100000 in
set_option maxHeartbeats 4000000 in
theorem c_X11_cell (l : Launch) (D : va_G) (ct : Nat → ClassId) (ad : Nat → Nat → Nat) (L : List (Nat × Nat)) (φ : Nat → Nat → Nat → Bool) (N0 : Nat) (σ : St) (x1 : Int) (x2 : Int) (Q : Int → St → Prop) (hw : wp_X11_cell σ x1 x2 Q) : Met l yX11_cell (.code yX11_cell cX11_cell 3 (some .boolean) :: gw) ({ frames := 2, cells := 0, slots := 0, locals := 42 } : Room) (Pm D ct ad L φ N0 σ [.ref (ad 11 0), .int (iv x1), .int (iv x2)]) (Qi D ct ad L φ N0 Q) 0 0 (AA N0) := by
  refine m_of (by decide) (fun p e s m below meth c X hnm h => ?_)
  have hF := X.2.2.2.2.2.2.2.2.1
  have hl := lv_entry ([.ref (ad 11 0), .int (iv x1), .int (iv x2)]) (n := 3) (Nat.le_of_ble_eq_true rfl)
  rw [lg_entry_eq]
  generalize (lg_sl ([.ref (ad 11 0), .int (iv x1), .int (iv x2)]) ++ List.replicate (3 - (lg_sl ([.ref (ad 11 0), .int (iv x1), .int (iv x2)])).length) Slot.unset).toArray = ls at hl ⊢
  have hl : lv_has ls 3 [(0, .ref (ad 11 0)), (1, .int (iv x1)), (2, .int (iv x2))] := hl
  have h : Hs D ct ad L φ N0 s.heap σ s.heap [] := h
  unfold wp_X11_cell at hw
  refine lv_iload_n X.1 X.2.1 dX11_cell_0 rfl (lv_at hl 1 rfl) ?_
  refine k_i h (r_S (As := [.int (iv x1)]) (rest := []) X h (c_X11_isCell l D ct ad L φ N0 σ x1 _ hw) rfl rfl ⟨Nat.le_of_ble_eq_true rfl, Nat.le_of_ble_eq_true rfl⟩ kw_523 kw_524 kw_120 kw_525 pd_X11_isCell rfl hl.1 rfl (Nat.le_of_ble_eq_true rfl) ⟨Nat.le_of_ble_eq_true rfl, Nat.le_of_ble_eq_true rfl⟩ dX11_cell_1) (fun r_2 σ_1 H locs hw h => ?_)
  obtain ⟨g_3, hwt, hwf⟩ := hw
  refine j_if_eq (tgt := 17) X g_3 dX11_cell_4 (by decide) (fun c_11 => ?_) (fun c_11 => ?_)
  · have hw := hwt c_11
    refine j_iconst X dX11_cell_17 ?_
    exact k_ir X rfl h hw dX11_cell_18
  · have hw := hwf c_11
    refine lv_iload_n X.1 X.2.1 dX11_cell_7 rfl (lv_at hl 2 rfl) ?_
    refine j_iconst X dX11_cell_8 ?_
    refine j_bipush X dX11_cell_9 (by decide) ?_
    refine k_i h (r_S (As := [.int (iv x2), .int (iv 0), .int (iv 40)]) (rest := []) X h (c_X11_within l D ct ad L φ N0 σ_1 x2 0 40 _ hw) rfl rfl ⟨Nat.le_of_ble_eq_true rfl, Nat.le_of_ble_eq_true rfl⟩ kw_526 kw_527 kw_120 kw_528 pd_X11_within rfl hl.1 rfl (Nat.le_of_ble_eq_true rfl) ⟨Nat.le_of_ble_eq_true rfl, Nat.le_of_ble_eq_true rfl⟩ dX11_cell_11) (fun r_5 σ_4 H locs hw h => ?_)
    obtain ⟨g_6, hwt, hwf⟩ := hw
    refine j_if_ne (tgt := 19) X g_6 dX11_cell_14 (by decide) (fun c_10 => ?_) (fun c_10 => ?_)
    · have hw := hwt c_10
      refine lv_aload_n X.1 X.2.1 dX11_cell_19 rfl (lv_at hl 0 rfl) ?_
      refine r_getR (ci := 11) X inw_11 h (hF.1 11 rfl).1 rfl rfl 1 (by decide) kw_459 rfl ((hF.1 11 rfl).2 1) dX11_cell_20 ?_
      refine r_getRN (ci := 3) X inw_3 h (hF.1 3 rfl).1 rfl rfl 0 (by decide) kw_187 rfl ((hF.1 3 rfl).2 0) dX11_cell_23 ?_
      refine lv_iload_n X.1 X.2.1 dX11_cell_26 rfl (lv_at hl 1 rfl) ?_
      refine lv_iload_n X.1 X.2.1 dX11_cell_27 rfl (lv_at hl 2 rfl) ?_
      obtain ⟨g_7, g_8, hw⟩ := hw
      refine r_iast (n := 64) X h (hF.1 28 rfl).1 (fun _ => rfl) (by decide) g_7 g_8 rfl dX11_cell_28 (fun H locs h => ?_)
      obtain ⟨σ_9, eσ_9⟩ : ∃ z : St, z = st σ_4 28 0 (Int.toNat x1) x2 := ⟨_, rfl⟩
      rw [← eσ_9] at h
      have hw := hw σ_9 eσ_9
      refine j_iconst X dX11_cell_29 ?_
      exact k_ir X rfl h hw dX11_cell_30
    · have hw := hwf c_10
      refine j_iconst X dX11_cell_17 ?_
      exact k_ir X rfl h hw dX11_cell_18
end
section
variable {p : Program} {l : Launch} {e : Env} {s : State} {m : MethodId} {args : Array Value} {below : List Frame} {meth : Method} {c : Code} {D : va_G} {ct : Nat → ClassId} {ad : Nat → Nat → Nat} {L : List (Nat × Nat)} {φ : Nat → Nat → Nat → Bool} {N0 : Nat}
variable {Q : Int → St → Prop}
theorem pd_X11_isStem : yX11_isStem.cls ≠ "java/lang/invoke/MethodHandle" ∧ yX11_isStem.cls ≠ "java/lang/invoke/VarHandle" ∧ (parseMethodDescriptor yX11_isStem.desc).map (fun d => d.parameters.length) = some 2 := by decide +kernel
def wp_X11_isStem (σ : St) (x0 : Int) (x1 : Int) (Q : Int → St → Prop) : Prop := wp_X11_within σ x0 0 3 (fun r_2 σ_1 => inR r_2 ∧ (r_2 = 0 → Q 0 σ_1) ∧ (¬ r_2 = 0 → wp_X11_within σ_1 x1 0 3 (fun r_5 σ_4 => inR r_5 ∧ (r_5 = 0 → Q 0 σ_4) ∧ (¬ r_5 = 0 → Q 1 σ_4))))
set_option maxRecDepth 100000 in
set_option maxHeartbeats 4000000 in
theorem c_X11_isStem (l : Launch) (D : va_G) (ct : Nat → ClassId) (ad : Nat → Nat → Nat) (L : List (Nat × Nat)) (φ : Nat → Nat → Nat → Bool) (N0 : Nat) (σ : St) (x0 : Int) (x1 : Int) (Q : Int → St → Prop) (hw : wp_X11_isStem σ x0 x1 Q) : Met l yX11_isStem (.code yX11_isStem cX11_isStem 2 (some .boolean) :: gw) ({ frames := 1, cells := 0, slots := 0, locals := 22 } : Room) (Pm D ct ad L φ N0 σ [.int (iv x0), .int (iv x1)]) (Qi D ct ad L φ N0 Q) 0 0 (AA N0) := by
  refine m_of (by decide) (fun p e s m below meth c X hnm h => ?_)
  have hF := X.2.2.2.2.2.2.2.2.1
  have hl := lv_entry ([.int (iv x0), .int (iv x1)]) (n := 2) (Nat.le_of_ble_eq_true rfl)
  rw [lg_entry_eq]
  generalize (lg_sl ([.int (iv x0), .int (iv x1)]) ++ List.replicate (2 - (lg_sl ([.int (iv x0), .int (iv x1)])).length) Slot.unset).toArray = ls at hl ⊢
  have hl : lv_has ls 2 [(0, .int (iv x0)), (1, .int (iv x1))] := hl
  have h : Hs D ct ad L φ N0 s.heap σ s.heap [] := h
  unfold wp_X11_isStem at hw
  refine lv_iload_n X.1 X.2.1 dX11_isStem_0 rfl (lv_at hl 0 rfl) ?_
  refine j_iconst X dX11_isStem_1 ?_
  refine j_iconst X dX11_isStem_2 ?_
  refine k_i h (r_S (As := [.int (iv x0), .int (iv 0), .int (iv 3)]) (rest := []) X h (c_X11_within l D ct ad L φ N0 σ x0 0 3 _ hw) rfl rfl ⟨Nat.le_of_ble_eq_true rfl, Nat.le_of_ble_eq_true rfl⟩ kw_526 kw_527 kw_120 kw_528 pd_X11_within rfl hl.1 rfl (Nat.le_of_ble_eq_true rfl) ⟨Nat.le_of_ble_eq_true rfl, Nat.le_of_ble_eq_true rfl⟩ dX11_isStem_3) (fun r_2 σ_1 H locs hw h => ?_)
  obtain ⟨g_3, hwt, hwf⟩ := hw
  refine j_if_eq (tgt := 22) X g_3 dX11_isStem_6 (by decide) (fun c_8 => ?_) (fun c_8 => ?_)
  · have hw := hwt c_8
    refine j_iconst X dX11_isStem_22 ?_
    exact k_ir X rfl h hw dX11_isStem_23
  · have hw := hwf c_8
    refine lv_iload_n X.1 X.2.1 dX11_isStem_9 rfl (lv_at hl 1 rfl) ?_
    refine j_iconst X dX11_isStem_10 ?_
    refine j_iconst X dX11_isStem_11 ?_
    refine k_i h (r_S (As := [.int (iv x1), .int (iv 0), .int (iv 3)]) (rest := []) X h (c_X11_within l D ct ad L φ N0 σ_1 x1 0 3 _ hw) rfl rfl ⟨Nat.le_of_ble_eq_true rfl, Nat.le_of_ble_eq_true rfl⟩ kw_526 kw_527 kw_120 kw_528 pd_X11_within rfl hl.1 rfl (Nat.le_of_ble_eq_true rfl) ⟨Nat.le_of_ble_eq_true rfl, Nat.le_of_ble_eq_true rfl⟩ dX11_isStem_12) (fun r_5 σ_4 H locs hw h => ?_)
    obtain ⟨g_6, hwt, hwf⟩ := hw
    refine j_if_eq (tgt := 22) X g_6 dX11_isStem_15 (by decide) (fun c_7 => ?_) (fun c_7 => ?_)
    · have hw := hwt c_7
      refine j_iconst X dX11_isStem_22 ?_
      exact k_ir X rfl h hw dX11_isStem_23
    · have hw := hwf c_7
      refine j_iconst X dX11_isStem_18 ?_
      refine lv_goto (tgt := 23) X.1 X.2.1 dX11_isStem_19 (by decide) ?_
      exact k_ir X rfl h hw dX11_isStem_23
end
section
variable {p : Program} {l : Launch} {e : Env} {s : State} {m : MethodId} {args : Array Value} {below : List Frame} {meth : Method} {c : Code} {D : va_G} {ct : Nat → ClassId} {ad : Nat → Nat → Nat} {L : List (Nat × Nat)} {φ : Nat → Nat → Nat → Bool} {N0 : Nat}
variable {Q : Int → St → Prop}
theorem pd_X11_stand : yX11_stand.cls ≠ "java/lang/invoke/MethodHandle" ∧ yX11_stand.cls ≠ "java/lang/invoke/VarHandle" ∧ (parseMethodDescriptor yX11_stand.desc).map (fun d => d.parameters.length) = some 4 := by decide +kernel
def wp_X11_stand (σ : St) (x1 : Int) (x2 : Int) (x3 : Int) (x4 : Int) (Q : Int → St → Prop) : Prop := wp_X11_isCell σ x1 (fun r_2 σ_1 => inR r_2 ∧ (r_2 = 0 → Q 0 σ_1) ∧ (¬ r_2 = 0 → wp_X11_isStem σ_1 x2 x3 (fun r_5 σ_4 => inR r_5 ∧ (r_5 = 0 → Q 0 σ_4) ∧ (¬ r_5 = 0 → wp_X11_within σ_4 x4 0 200 (fun r_8 σ_7 => inR r_8 ∧ (¬ r_8 = 0 → wp_X3_stemPlace σ_7 x1 x2 x3 (fun r_11 σ_10 => 0 ≤ r_11 ∧ r_11 < 1024 ∧ ∀ σ_14 : St, σ_14 = st σ_10 30 0 (Int.toNat r_11) x4 → (Q 1 σ_14))) ∧ (r_8 = 0 → Q 0 σ_7))))))
set_option maxRecDepth 100000 in
set_option maxHeartbeats 4000000 in
theorem c_X11_stand (l : Launch) (D : va_G) (ct : Nat → ClassId) (ad : Nat → Nat → Nat) (L : List (Nat × Nat)) (φ : Nat → Nat → Nat → Bool) (N0 : Nat) (σ : St) (x1 : Int) (x2 : Int) (x3 : Int) (x4 : Int) (Q : Int → St → Prop) (hw : wp_X11_stand σ x1 x2 x3 x4 Q) : Met l yX11_stand (.code yX11_stand cX11_stand 5 (some .boolean) :: gw) ({ frames := 2, cells := 0, slots := 0, locals := 43 } : Room) (Pm D ct ad L φ N0 σ [.ref (ad 11 0), .int (iv x1), .int (iv x2), .int (iv x3), .int (iv x4)]) (Qi D ct ad L φ N0 Q) 0 0 (AA N0) := by
  refine m_of (by decide) (fun p e s m below meth c X hnm h => ?_)
  have hF := X.2.2.2.2.2.2.2.2.1
  have hl := lv_entry ([.ref (ad 11 0), .int (iv x1), .int (iv x2), .int (iv x3), .int (iv x4)]) (n := 5) (Nat.le_of_ble_eq_true rfl)
  rw [lg_entry_eq]
  generalize (lg_sl ([.ref (ad 11 0), .int (iv x1), .int (iv x2), .int (iv x3), .int (iv x4)]) ++ List.replicate (5 - (lg_sl ([.ref (ad 11 0), .int (iv x1), .int (iv x2), .int (iv x3), .int (iv x4)])).length) Slot.unset).toArray = ls at hl ⊢
  have hl : lv_has ls 5 [(0, .ref (ad 11 0)), (1, .int (iv x1)), (2, .int (iv x2)), (3, .int (iv x3)), (4, .int (iv x4))] := hl
  have h : Hs D ct ad L φ N0 s.heap σ s.heap [] := h
  unfold wp_X11_stand at hw
  refine lv_iload_n X.1 X.2.1 dX11_stand_0 rfl (lv_at hl 1 rfl) ?_
  refine k_i h (r_S (As := [.int (iv x1)]) (rest := []) X h (c_X11_isCell l D ct ad L φ N0 σ x1 _ hw) rfl rfl ⟨Nat.le_of_ble_eq_true rfl, Nat.le_of_ble_eq_true rfl⟩ kw_523 kw_524 kw_120 kw_525 pd_X11_isCell rfl hl.1 rfl (Nat.le_of_ble_eq_true rfl) ⟨Nat.le_of_ble_eq_true rfl, Nat.le_of_ble_eq_true rfl⟩ dX11_stand_1) (fun r_2 σ_1 H locs hw h => ?_)
  obtain ⟨g_3, hwt, hwf⟩ := hw
  refine j_if_eq (tgt := 27) X g_3 dX11_stand_4 (by decide) (fun c_17 => ?_) (fun c_17 => ?_)
  · have hw := hwt c_17
    refine j_iconst X dX11_stand_27 ?_
    exact k_ir X rfl h hw dX11_stand_28
  · have hw := hwf c_17
    refine lv_iload_n X.1 X.2.1 dX11_stand_7 rfl (lv_at hl 2 rfl) ?_
    refine lv_iload_n X.1 X.2.1 dX11_stand_8 rfl (lv_at hl 3 rfl) ?_
    refine k_i h (r_S (As := [.int (iv x2), .int (iv x3)]) (rest := []) X h (c_X11_isStem l D ct ad L φ N0 σ_1 x2 x3 _ hw) rfl rfl ⟨Nat.le_of_ble_eq_true rfl, Nat.le_of_ble_eq_true rfl⟩ kw_533 kw_534 kw_120 kw_535 pd_X11_isStem rfl hl.1 rfl (Nat.le_of_ble_eq_true rfl) ⟨Nat.le_of_ble_eq_true rfl, Nat.le_of_ble_eq_true rfl⟩ dX11_stand_9) (fun r_5 σ_4 H locs hw h => ?_)
    obtain ⟨g_6, hwt, hwf⟩ := hw
    refine j_if_eq (tgt := 27) X g_6 dX11_stand_12 (by decide) (fun c_16 => ?_) (fun c_16 => ?_)
    · have hw := hwt c_16
      refine j_iconst X dX11_stand_27 ?_
      exact k_ir X rfl h hw dX11_stand_28
    · have hw := hwf c_16
      refine lv_iload X.1 X.2.1 dX11_stand_15 (lv_at hl 4 rfl) ?_
      refine j_iconst X dX11_stand_17 ?_
      refine j_sipush X dX11_stand_18 (by decide) ?_
      refine k_i h (r_S (As := [.int (iv x4), .int (iv 0), .int (iv 200)]) (rest := []) X h (c_X11_within l D ct ad L φ N0 σ_4 x4 0 200 _ hw) rfl rfl ⟨Nat.le_of_ble_eq_true rfl, Nat.le_of_ble_eq_true rfl⟩ kw_526 kw_527 kw_120 kw_528 pd_X11_within rfl hl.1 rfl (Nat.le_of_ble_eq_true rfl) ⟨Nat.le_of_ble_eq_true rfl, Nat.le_of_ble_eq_true rfl⟩ dX11_stand_21) (fun r_8 σ_7 H locs hw h => ?_)
      obtain ⟨g_9, hwt, hwf⟩ := hw
      refine j_if_ne (tgt := 29) X g_9 dX11_stand_24 (by decide) (fun c_15 => ?_) (fun c_15 => ?_)
      · have hw := hwt c_15
        refine lv_aload_n X.1 X.2.1 dX11_stand_29 rfl (lv_at hl 0 rfl) ?_
        refine r_getR (ci := 11) X inw_11 h (hF.1 11 rfl).1 rfl rfl 1 (by decide) kw_459 rfl ((hF.1 11 rfl).2 1) dX11_stand_30 ?_
        refine r_getRN (ci := 3) X inw_3 h (hF.1 3 rfl).1 rfl rfl 2 (by decide) kw_193 rfl ((hF.1 3 rfl).2 2) dX11_stand_33 ?_
        refine lv_iload_n X.1 X.2.1 dX11_stand_36 rfl (lv_at hl 1 rfl) ?_
        refine lv_iload_n X.1 X.2.1 dX11_stand_37 rfl (lv_at hl 2 rfl) ?_
        refine lv_iload_n X.1 X.2.1 dX11_stand_38 rfl (lv_at hl 3 rfl) ?_
        refine k_i h (r_S (As := [.int (iv x1), .int (iv x2), .int (iv x3)]) (rest := [.ref (ad 30 0)]) X h (c_X3_stemPlace l D ct ad L φ N0 σ_7 x1 x2 x3 _ hw) rfl rfl ⟨Nat.le_of_ble_eq_true rfl, Nat.le_of_ble_eq_true rfl⟩ kw_536 kw_537 kw_122 kw_538 pd_X3_stemPlace rfl hl.1 rfl (Nat.le_of_ble_eq_true rfl) ⟨Nat.le_of_ble_eq_true rfl, Nat.le_of_ble_eq_true rfl⟩ dX11_stand_39) (fun r_11 σ_10 H locs hw h => ?_)
        refine lv_iload X.1 X.2.1 dX11_stand_42 (lv_at hl 4 rfl) ?_
        obtain ⟨g_12, g_13, hw⟩ := hw
        refine r_iast (n := 1024) X h (hF.1 30 rfl).1 (fun _ => rfl) (by decide) g_12 g_13 rfl dX11_stand_44 (fun H locs h => ?_)
        obtain ⟨σ_14, eσ_14⟩ : ∃ z : St, z = st σ_10 30 0 (Int.toNat r_11) x4 := ⟨_, rfl⟩
        rw [← eσ_14] at h
        have hw := hw σ_14 eσ_14
        refine j_iconst X dX11_stand_45 ?_
        exact k_ir X rfl h hw dX11_stand_46
      · have hw := hwf c_15
        refine j_iconst X dX11_stand_27 ?_
        exact k_ir X rfl h hw dX11_stand_28
end
section
variable {p : Program} {l : Launch} {e : Env} {s : State} {m : MethodId} {args : Array Value} {below : List Frame} {meth : Method} {c : Code} {D : va_G} {ct : Nat → ClassId} {ad : Nat → Nat → Nat} {L : List (Nat × Nat)} {φ : Nat → Nat → Nat → Bool} {N0 : Nat}
variable {Q : Int → St → Prop}
theorem pd_X11_sort : yX11_sort.cls ≠ "java/lang/invoke/MethodHandle" ∧ yX11_sort.cls ≠ "java/lang/invoke/VarHandle" ∧ (parseMethodDescriptor yX11_sort.desc).map (fun d => d.parameters.length) = some 3 := by decide +kernel
def wp_X11_sort (σ : St) (x1 : Int) (x2 : Int) (x3 : Int) (Q : Int → St → Prop) : Prop := wp_X11_within σ x1 0 3 (fun r_2 σ_1 => inR r_2 ∧ (r_2 = 0 → Q 0 σ_1) ∧ (¬ r_2 = 0 → wp_X11_within σ_1 x2 0 100 (fun r_5 σ_4 => inR r_5 ∧ (r_5 = 0 → Q 0 σ_4) ∧ (¬ r_5 = 0 → wp_X11_within σ_4 x3 1 3 (fun r_8 σ_7 => inR r_8 ∧ (¬ r_8 = 0 → 0 ≤ x1 ∧ x1 < 4 ∧ ∀ σ_12 : St, σ_12 = st σ_7 32 0 (Int.toNat x1) x2 → (0 ≤ x1 ∧ x1 < 4 ∧ ∀ σ_15 : St, σ_15 = st σ_12 33 0 (Int.toNat x1) x3 → (Q 1 σ_15))) ∧ (r_8 = 0 → Q 0 σ_7))))))
set_option maxRecDepth 100000 in
set_option maxHeartbeats 4000000 in
theorem c_X11_sort (l : Launch) (D : va_G) (ct : Nat → ClassId) (ad : Nat → Nat → Nat) (L : List (Nat × Nat)) (φ : Nat → Nat → Nat → Bool) (N0 : Nat) (σ : St) (x1 : Int) (x2 : Int) (x3 : Int) (Q : Int → St → Prop) (hw : wp_X11_sort σ x1 x2 x3 Q) : Met l yX11_sort (.code yX11_sort cX11_sort 4 (some .boolean) :: gw) ({ frames := 1, cells := 0, slots := 0, locals := 22 } : Room) (Pm D ct ad L φ N0 σ [.ref (ad 11 0), .int (iv x1), .int (iv x2), .int (iv x3)]) (Qi D ct ad L φ N0 Q) 0 0 (AA N0) := by
  refine m_of (by decide) (fun p e s m below meth c X hnm h => ?_)
  have hF := X.2.2.2.2.2.2.2.2.1
  have hl := lv_entry ([.ref (ad 11 0), .int (iv x1), .int (iv x2), .int (iv x3)]) (n := 4) (Nat.le_of_ble_eq_true rfl)
  rw [lg_entry_eq]
  generalize (lg_sl ([.ref (ad 11 0), .int (iv x1), .int (iv x2), .int (iv x3)]) ++ List.replicate (4 - (lg_sl ([.ref (ad 11 0), .int (iv x1), .int (iv x2), .int (iv x3)])).length) Slot.unset).toArray = ls at hl ⊢
  have hl : lv_has ls 4 [(0, .ref (ad 11 0)), (1, .int (iv x1)), (2, .int (iv x2)), (3, .int (iv x3))] := hl
  have h : Hs D ct ad L φ N0 s.heap σ s.heap [] := h
  unfold wp_X11_sort at hw
  refine lv_iload_n X.1 X.2.1 dX11_sort_0 rfl (lv_at hl 1 rfl) ?_
  refine j_iconst X dX11_sort_1 ?_
  refine j_iconst X dX11_sort_2 ?_
  refine k_i h (r_S (As := [.int (iv x1), .int (iv 0), .int (iv 3)]) (rest := []) X h (c_X11_within l D ct ad L φ N0 σ x1 0 3 _ hw) rfl rfl ⟨Nat.le_of_ble_eq_true rfl, Nat.le_of_ble_eq_true rfl⟩ kw_526 kw_527 kw_120 kw_528 pd_X11_within rfl hl.1 rfl (Nat.le_of_ble_eq_true rfl) ⟨Nat.le_of_ble_eq_true rfl, Nat.le_of_ble_eq_true rfl⟩ dX11_sort_3) (fun r_2 σ_1 H locs hw h => ?_)
  obtain ⟨g_3, hwt, hwf⟩ := hw
  refine j_if_eq (tgt := 28) X g_3 dX11_sort_6 (by decide) (fun c_18 => ?_) (fun c_18 => ?_)
  · have hw := hwt c_18
    refine j_iconst X dX11_sort_28 ?_
    exact k_ir X rfl h hw dX11_sort_29
  · have hw := hwf c_18
    refine lv_iload_n X.1 X.2.1 dX11_sort_9 rfl (lv_at hl 2 rfl) ?_
    refine j_iconst X dX11_sort_10 ?_
    refine j_bipush X dX11_sort_11 (by decide) ?_
    refine k_i h (r_S (As := [.int (iv x2), .int (iv 0), .int (iv 100)]) (rest := []) X h (c_X11_within l D ct ad L φ N0 σ_1 x2 0 100 _ hw) rfl rfl ⟨Nat.le_of_ble_eq_true rfl, Nat.le_of_ble_eq_true rfl⟩ kw_526 kw_527 kw_120 kw_528 pd_X11_within rfl hl.1 rfl (Nat.le_of_ble_eq_true rfl) ⟨Nat.le_of_ble_eq_true rfl, Nat.le_of_ble_eq_true rfl⟩ dX11_sort_13) (fun r_5 σ_4 H locs hw h => ?_)
    obtain ⟨g_6, hwt, hwf⟩ := hw
    refine j_if_eq (tgt := 28) X g_6 dX11_sort_16 (by decide) (fun c_17 => ?_) (fun c_17 => ?_)
    · have hw := hwt c_17
      refine j_iconst X dX11_sort_28 ?_
      exact k_ir X rfl h hw dX11_sort_29
    · have hw := hwf c_17
      refine lv_iload_n X.1 X.2.1 dX11_sort_19 rfl (lv_at hl 3 rfl) ?_
      refine j_iconst X dX11_sort_20 ?_
      refine j_iconst X dX11_sort_21 ?_
      refine k_i h (r_S (As := [.int (iv x3), .int (iv 1), .int (iv 3)]) (rest := []) X h (c_X11_within l D ct ad L φ N0 σ_4 x3 1 3 _ hw) rfl rfl ⟨Nat.le_of_ble_eq_true rfl, Nat.le_of_ble_eq_true rfl⟩ kw_526 kw_527 kw_120 kw_528 pd_X11_within rfl hl.1 rfl (Nat.le_of_ble_eq_true rfl) ⟨Nat.le_of_ble_eq_true rfl, Nat.le_of_ble_eq_true rfl⟩ dX11_sort_22) (fun r_8 σ_7 H locs hw h => ?_)
      obtain ⟨g_9, hwt, hwf⟩ := hw
      refine j_if_ne (tgt := 30) X g_9 dX11_sort_25 (by decide) (fun c_16 => ?_) (fun c_16 => ?_)
      · have hw := hwt c_16
        refine lv_aload_n X.1 X.2.1 dX11_sort_30 rfl (lv_at hl 0 rfl) ?_
        refine r_getR (ci := 11) X inw_11 h (hF.1 11 rfl).1 rfl rfl 1 (by decide) kw_459 rfl ((hF.1 11 rfl).2 1) dX11_sort_31 ?_
        refine r_getRN (ci := 3) X inw_3 h (hF.1 3 rfl).1 rfl rfl 4 (by decide) kw_197 rfl ((hF.1 3 rfl).2 4) dX11_sort_34 ?_
        refine lv_iload_n X.1 X.2.1 dX11_sort_37 rfl (lv_at hl 1 rfl) ?_
        refine lv_iload_n X.1 X.2.1 dX11_sort_38 rfl (lv_at hl 2 rfl) ?_
        obtain ⟨g_10, g_11, hw⟩ := hw
        refine r_iast (n := 4) X h (hF.1 32 rfl).1 (fun _ => rfl) (by decide) g_10 g_11 rfl dX11_sort_39 (fun H locs h => ?_)
        obtain ⟨σ_12, eσ_12⟩ : ∃ z : St, z = st σ_7 32 0 (Int.toNat x1) x2 := ⟨_, rfl⟩
        rw [← eσ_12] at h
        have hw := hw σ_12 eσ_12
        refine lv_aload_n X.1 X.2.1 dX11_sort_40 rfl (lv_at hl 0 rfl) ?_
        refine r_getR (ci := 11) X inw_11 h (hF.1 11 rfl).1 rfl rfl 1 (by decide) kw_459 rfl ((hF.1 11 rfl).2 1) dX11_sort_41 ?_
        refine r_getRN (ci := 3) X inw_3 h (hF.1 3 rfl).1 rfl rfl 5 (by decide) kw_199 rfl ((hF.1 3 rfl).2 5) dX11_sort_44 ?_
        refine lv_iload_n X.1 X.2.1 dX11_sort_47 rfl (lv_at hl 1 rfl) ?_
        refine lv_iload_n X.1 X.2.1 dX11_sort_48 rfl (lv_at hl 3 rfl) ?_
        obtain ⟨g_13, g_14, hw⟩ := hw
        refine r_iast (n := 4) X h (hF.1 33 rfl).1 (fun _ => rfl) (by decide) g_13 g_14 rfl dX11_sort_49 (fun H locs h => ?_)
        obtain ⟨σ_15, eσ_15⟩ : ∃ z : St, z = st σ_12 33 0 (Int.toNat x1) x3 := ⟨_, rfl⟩
        rw [← eσ_15] at h
        have hw := hw σ_15 eσ_15
        refine j_iconst X dX11_sort_50 ?_
        exact k_ir X rfl h hw dX11_sort_51
      · have hw := hwf c_16
        refine j_iconst X dX11_sort_28 ?_
        exact k_ir X rfl h hw dX11_sort_29
end
section
variable {p : Program} {l : Launch} {e : Env} {s : State} {m : MethodId} {args : Array Value} {below : List Frame} {meth : Method} {c : Code} {D : va_G} {ct : Nat → ClassId} {ad : Nat → Nat → Nat} {L : List (Nat × Nat)} {φ : Nat → Nat → Nat → Bool} {N0 : Nat}
variable {Q : Int → St → Prop}
theorem pd_X11_mill : yX11_mill.cls ≠ "java/lang/invoke/MethodHandle" ∧ yX11_mill.cls ≠ "java/lang/invoke/VarHandle" ∧ (parseMethodDescriptor yX11_mill.desc).map (fun d => d.parameters.length) = some 1 := by decide +kernel
def wp_X11_mill (σ : St) (x1 : Int) (Q : Int → St → Prop) : Prop := wp_X11_isCell σ x1 (fun r_2 σ_1 => inR r_2 ∧ (r_2 = 0 → Q 0 σ_1) ∧ (¬ r_2 = 0 → inR (σ_1 11 0 4) ∧ ((σ_1 11 0 4) ≤ 0 → ∀ σ_5 : St, σ_5 = st σ_1 3 0 6 x1 → (Q 1 σ_5)) ∧ (¬ (σ_1 11 0 4) ≤ 0 → Q 0 σ_1)))
set_option maxRecDepth 100000 in
set_option maxHeartbeats 4000000 in
theorem c_X11_mill (l : Launch) (D : va_G) (ct : Nat → ClassId) (ad : Nat → Nat → Nat) (L : List (Nat × Nat)) (φ : Nat → Nat → Nat → Bool) (N0 : Nat) (σ : St) (x1 : Int) (Q : Int → St → Prop) (hw : wp_X11_mill σ x1 Q) : Met l yX11_mill (.code yX11_mill cX11_mill 2 (some .boolean) :: gw) ({ frames := 2, cells := 0, slots := 0, locals := 42 } : Room) (Pm D ct ad L φ N0 σ [.ref (ad 11 0), .int (iv x1)]) (Qi D ct ad L φ N0 Q) 0 0 (AA N0) := by
  refine m_of (by decide) (fun p e s m below meth c X hnm h => ?_)
  have hF := X.2.2.2.2.2.2.2.2.1
  have hl := lv_entry ([.ref (ad 11 0), .int (iv x1)]) (n := 2) (Nat.le_of_ble_eq_true rfl)
  rw [lg_entry_eq]
  generalize (lg_sl ([.ref (ad 11 0), .int (iv x1)]) ++ List.replicate (2 - (lg_sl ([.ref (ad 11 0), .int (iv x1)])).length) Slot.unset).toArray = ls at hl ⊢
  have hl : lv_has ls 2 [(0, .ref (ad 11 0)), (1, .int (iv x1))] := hl
  have h : Hs D ct ad L φ N0 s.heap σ s.heap [] := h
  unfold wp_X11_mill at hw
  refine lv_iload_n X.1 X.2.1 dX11_mill_0 rfl (lv_at hl 1 rfl) ?_
  refine k_i h (r_S (As := [.int (iv x1)]) (rest := []) X h (c_X11_isCell l D ct ad L φ N0 σ x1 _ hw) rfl rfl ⟨Nat.le_of_ble_eq_true rfl, Nat.le_of_ble_eq_true rfl⟩ kw_523 kw_524 kw_120 kw_525 pd_X11_isCell rfl hl.1 rfl (Nat.le_of_ble_eq_true rfl) ⟨Nat.le_of_ble_eq_true rfl, Nat.le_of_ble_eq_true rfl⟩ dX11_mill_1) (fun r_2 σ_1 H locs hw h => ?_)
  obtain ⟨g_3, hwt, hwf⟩ := hw
  refine j_if_eq (tgt := 14) X g_3 dX11_mill_4 (by decide) (fun c_7 => ?_) (fun c_7 => ?_)
  · have hw := hwt c_7
    refine j_iconst X dX11_mill_14 ?_
    exact k_ir X rfl h hw dX11_mill_15
  · have hw := hwf c_7
    refine lv_aload_n X.1 X.2.1 dX11_mill_7 rfl (lv_at hl 0 rfl) ?_
    refine r_get (ci := 11) X inw_11 h (hF.1 11 rfl).1 rfl rfl 4 (by decide) kw_462 rfl dX11_mill_8 ?_
    obtain ⟨g_4, hwt, hwf⟩ := hw
    refine j_if_le (tgt := 16) X g_4 dX11_mill_11 (by decide) (fun c_6 => ?_) (fun c_6 => ?_)
    · have hw := hwt c_6
      refine lv_aload_n X.1 X.2.1 dX11_mill_16 rfl (lv_at hl 0 rfl) ?_
      refine r_getR (ci := 11) X inw_11 h (hF.1 11 rfl).1 rfl rfl 1 (by decide) kw_459 rfl ((hF.1 11 rfl).2 1) dX11_mill_17 ?_
      refine lv_iload_n X.1 X.2.1 dX11_mill_20 rfl (lv_at hl 1 rfl) ?_
      refine r_putN (ci := 3) X inw_3 tyX3 tyX3_ok nmX3 h (hF.1 3 rfl).1 rfl rfl 6 (by decide) kw_201 rfl rfl rfl (Nat.le_of_ble_eq_true rfl) rfl rfl dX11_mill_21 (fun H locs h => ?_)
      obtain ⟨σ_5, eσ_5⟩ : ∃ z : St, z = st σ_1 3 0 6 x1 := ⟨_, rfl⟩
      rw [← eσ_5] at h
      have hw := hw σ_5 eσ_5
      refine j_iconst X dX11_mill_24 ?_
      exact k_ir X rfl h hw dX11_mill_25
    · have hw := hwf c_6
      refine j_iconst X dX11_mill_14 ?_
      exact k_ir X rfl h hw dX11_mill_15
end
section
variable {p : Program} {l : Launch} {e : Env} {s : State} {m : MethodId} {args : Array Value} {below : List Frame} {meth : Method} {c : Code} {D : va_G} {ct : Nat → ClassId} {ad : Nat → Nat → Nat} {L : List (Nat × Nat)} {φ : Nat → Nat → Nat → Bool} {N0 : Nat}
variable {Q : Int → St → Prop}
theorem pd_X11_weather : yX11_weather.cls ≠ "java/lang/invoke/MethodHandle" ∧ yX11_weather.cls ≠ "java/lang/invoke/VarHandle" ∧ (parseMethodDescriptor yX11_weather.desc).map (fun d => d.parameters.length) = some 4 := by decide +kernel
def wp_X11_weather (σ : St) (x1 : Int) (x2 : Int) (x3 : Int) (x4 : Int) (Q : Int → St → Prop) : Prop := wp_X7_tell σ x1 x2 x3 x4 (fun r_2 σ_1 => (r_2 = 0 ∨ r_2 = 1) ∧ Q r_2 σ_1)
set_option maxRecDepth 100000 in
set_option maxHeartbeats 4000000 in
theorem c_X11_weather (l : Launch) (D : va_G) (ct : Nat → ClassId) (ad : Nat → Nat → Nat) (L : List (Nat × Nat)) (φ : Nat → Nat → Nat → Bool) (N0 : Nat) (σ : St) (x1 : Int) (x2 : Int) (x3 : Int) (x4 : Int) (Q : Int → St → Prop) (hw : wp_X11_weather σ x1 x2 x3 x4 Q) : Met l yX11_weather (.code yX11_weather cX11_weather 5 (some .boolean) :: gw) ({ frames := 2, cells := 0, slots := 0, locals := 47 } : Room) (Pm D ct ad L φ N0 σ [.ref (ad 11 0), .int (iv x1), .int (iv x2), .int (iv x3), .int (iv x4)]) (Qi D ct ad L φ N0 Q) 0 0 (AA N0) := by
  refine m_of (by decide) (fun p e s m below meth c X hnm h => ?_)
  have hF := X.2.2.2.2.2.2.2.2.1
  have hl := lv_entry ([.ref (ad 11 0), .int (iv x1), .int (iv x2), .int (iv x3), .int (iv x4)]) (n := 5) (Nat.le_of_ble_eq_true rfl)
  rw [lg_entry_eq]
  generalize (lg_sl ([.ref (ad 11 0), .int (iv x1), .int (iv x2), .int (iv x3), .int (iv x4)]) ++ List.replicate (5 - (lg_sl ([.ref (ad 11 0), .int (iv x1), .int (iv x2), .int (iv x3), .int (iv x4)])).length) Slot.unset).toArray = ls at hl ⊢
  have hl : lv_has ls 5 [(0, .ref (ad 11 0)), (1, .int (iv x1)), (2, .int (iv x2)), (3, .int (iv x3)), (4, .int (iv x4))] := hl
  have h : Hs D ct ad L φ N0 s.heap σ s.heap [] := h
  unfold wp_X11_weather at hw
  refine lv_aload_n X.1 X.2.1 dX11_weather_0 rfl (lv_at hl 0 rfl) ?_
  refine r_getR (ci := 11) X inw_11 h (hF.1 11 rfl).1 rfl rfl 0 (by decide) kw_458 rfl ((hF.1 11 rfl).2 0) dX11_weather_1 ?_
  refine lv_iload_n X.1 X.2.1 dX11_weather_4 rfl (lv_at hl 1 rfl) ?_
  refine lv_iload_n X.1 X.2.1 dX11_weather_5 rfl (lv_at hl 2 rfl) ?_
  refine lv_iload_n X.1 X.2.1 dX11_weather_6 rfl (lv_at hl 3 rfl) ?_
  refine lv_iload X.1 X.2.1 dX11_weather_7 (lv_at hl 4 rfl) ?_
  refine k_i h (r_V (C := RX7) (ci := 7) (As := [.int (iv x1), .int (iv x2), .int (iv x3), .int (iv x4)]) (rest := []) X h (c_X7_tell l D ct ad L φ N0 σ x1 x2 x3 x4 _ hw) rfl rfl ⟨Nat.le_of_ble_eq_true rfl, Nat.le_of_ble_eq_true rfl⟩ kw_551 kw_552 kw_553 kw_121 kw_554 ⟨rfl, pd_X7_tell⟩ (hF.1 7 rfl).1 rfl rfl rfl hl.1 rfl (Nat.le_of_ble_eq_true rfl) ⟨Nat.le_of_ble_eq_true rfl, Nat.le_of_ble_eq_true rfl⟩ dX11_weather_9) (fun r_2 σ_1 H locs hw h => ?_)
  obtain ⟨g_3, hw⟩ := hw
  exact k_ir X (nb_n g_3) h hw dX11_weather_12
end
section
variable {p : Program} {l : Launch} {e : Env} {s : State} {m : MethodId} {args : Array Value} {below : List Frame} {meth : Method} {c : Code} {D : va_G} {ct : Nat → ClassId} {ad : Nat → Nat → Nat} {L : List (Nat × Nat)} {φ : Nat → Nat → Nat → Bool} {N0 : Nat}
variable {Q : Int → St → Prop}
theorem pd_X11_isDay : yX11_isDay.cls ≠ "java/lang/invoke/MethodHandle" ∧ yX11_isDay.cls ≠ "java/lang/invoke/VarHandle" ∧ (parseMethodDescriptor yX11_isDay.desc).map (fun d => d.parameters.length) = some 1 := by decide +kernel
def wp_X11_isDay (σ : St) (x0 : Int) (Q : Int → St → Prop) : Prop := wp_X11_within σ x0 0 3999 (fun r_2 σ_1 => (r_2 = 0 ∨ r_2 = 1) ∧ Q r_2 σ_1)
set_option maxRecDepth 100000 in
set_option maxHeartbeats 4000000 in
theorem c_X11_isDay (l : Launch) (D : va_G) (ct : Nat → ClassId) (ad : Nat → Nat → Nat) (L : List (Nat × Nat)) (φ : Nat → Nat → Nat → Bool) (N0 : Nat) (σ : St) (x0 : Int) (Q : Int → St → Prop) (hw : wp_X11_isDay σ x0 Q) : Met l yX11_isDay (.code yX11_isDay cX11_isDay 1 (some .boolean) :: gw) ({ frames := 1, cells := 0, slots := 0, locals := 22 } : Room) (Pm D ct ad L φ N0 σ [.int (iv x0)]) (Qi D ct ad L φ N0 Q) 0 0 (AA N0) := by
  refine m_of (by decide) (fun p e s m below meth c X hnm h => ?_)
  have hF := X.2.2.2.2.2.2.2.2.1
  have hl := lv_entry ([.int (iv x0)]) (n := 1) (Nat.le_of_ble_eq_true rfl)
  rw [lg_entry_eq]
  generalize (lg_sl ([.int (iv x0)]) ++ List.replicate (1 - (lg_sl ([.int (iv x0)])).length) Slot.unset).toArray = ls at hl ⊢
  have hl : lv_has ls 1 [(0, .int (iv x0))] := hl
  have h : Hs D ct ad L φ N0 s.heap σ s.heap [] := h
  unfold wp_X11_isDay at hw
  refine lv_iload_n X.1 X.2.1 dX11_isDay_0 rfl (lv_at hl 0 rfl) ?_
  refine j_iconst X dX11_isDay_1 ?_
  refine j_sipush X dX11_isDay_2 (by decide) ?_
  refine k_i h (r_S (As := [.int (iv x0), .int (iv 0), .int (iv 3999)]) (rest := []) X h (c_X11_within l D ct ad L φ N0 σ x0 0 3999 _ hw) rfl rfl ⟨Nat.le_of_ble_eq_true rfl, Nat.le_of_ble_eq_true rfl⟩ kw_526 kw_527 kw_120 kw_528 pd_X11_within rfl hl.1 rfl (Nat.le_of_ble_eq_true rfl) ⟨Nat.le_of_ble_eq_true rfl, Nat.le_of_ble_eq_true rfl⟩ dX11_isDay_5) (fun r_2 σ_1 H locs hw h => ?_)
  obtain ⟨g_3, hw⟩ := hw
  exact k_ir X (nb_n g_3) h hw dX11_isDay_8
end
section
variable {p : Program} {l : Launch} {e : Env} {s : State} {m : MethodId} {args : Array Value} {below : List Frame} {meth : Method} {c : Code} {D : va_G} {ct : Nat → ClassId} {ad : Nat → Nat → Nat} {L : List (Nat × Nat)} {φ : Nat → Nat → Nat → Bool} {N0 : Nat}
variable {Q : Int → St → Prop}
theorem pd_X11_of : yX11_of.cls ≠ "java/lang/invoke/MethodHandle" ∧ yX11_of.cls ≠ "java/lang/invoke/VarHandle" ∧ (parseMethodDescriptor yX11_of.desc).map (fun d => d.parameters.length) = some 2 := by decide +kernel
def wp_X11_of (σ : St) (x1 : Int) (x2 : Int) (Q : Int → St → Prop) : Prop := wp_X11_isCell σ x1 (fun r_2 σ_1 => inR r_2 ∧ (¬ r_2 = 0 → inR x2 ∧ (x2 = 0 → 0 ≤ x1 ∧ x1 < 64 ∧ Q (σ_1 28 0 (Int.toNat x1)) σ_1) ∧ (x2 = 1 → 0 ≤ x1 ∧ x1 < 64 ∧ Q (σ_1 29 0 (Int.toNat x1)) σ_1) ∧ (x2 = 2 → 0 ≤ x1 ∧ x1 < 64 ∧ Q (σ_1 31 0 (Int.toNat x1)) σ_1) ∧ (x2 = 3 → wp_X3_far σ_1 x1 (fun r_12 σ_11 => Q r_12 σ_11)) ∧ (x2 = 4 → wp_X3_stemsIn σ_1 x1 (fun r_14 σ_13 => Q r_14 σ_13)) ∧ ((x2 < 0 ∨ 4 < x2) → wp_X11_within σ_1 x2 5 20 (fun r_16 σ_15 => inR r_16 ∧ (r_16 = 0 → Q (-1) σ_15) ∧ (¬ r_16 = 0 → 0 ≤ (((x1 * 16) + x2) - 5) ∧ (((x1 * 16) + x2) - 5) < 1024 ∧ Q (σ_15 30 0 (Int.toNat (((x1 * 16) + x2) - 5))) σ_15)))) ∧ (r_2 = 0 → Q (-1) σ_1))
set_option maxRecDepth 100000 in
set_option maxHeartbeats 4000000 in
theorem c_X11_of (l : Launch) (D : va_G) (ct : Nat → ClassId) (ad : Nat → Nat → Nat) (L : List (Nat × Nat)) (φ : Nat → Nat → Nat → Bool) (N0 : Nat) (σ : St) (x1 : Int) (x2 : Int) (Q : Int → St → Prop) (hw : wp_X11_of σ x1 x2 Q) : Met l yX11_of (.code yX11_of cX11_of 3 (some .int) :: gw) ({ frames := 3, cells := 0, slots := 0, locals := 62 } : Room) (Pm D ct ad L φ N0 σ [.ref (ad 11 0), .int (iv x1), .int (iv x2)]) (Qi D ct ad L φ N0 Q) 0 0 (AA N0) := by
  refine m_of (by decide) (fun p e s m below meth c X hnm h => ?_)
  have hF := X.2.2.2.2.2.2.2.2.1
  have hl := lv_entry ([.ref (ad 11 0), .int (iv x1), .int (iv x2)]) (n := 3) (Nat.le_of_ble_eq_true rfl)
  rw [lg_entry_eq]
  generalize (lg_sl ([.ref (ad 11 0), .int (iv x1), .int (iv x2)]) ++ List.replicate (3 - (lg_sl ([.ref (ad 11 0), .int (iv x1), .int (iv x2)])).length) Slot.unset).toArray = ls at hl ⊢
  have hl : lv_has ls 3 [(0, .ref (ad 11 0)), (1, .int (iv x1)), (2, .int (iv x2))] := hl
  have h : Hs D ct ad L φ N0 s.heap σ s.heap [] := h
  unfold wp_X11_of at hw
  refine lv_iload_n X.1 X.2.1 dX11_of_0 rfl (lv_at hl 1 rfl) ?_
  refine k_i h (r_S (As := [.int (iv x1)]) (rest := []) X h (c_X11_isCell l D ct ad L φ N0 σ x1 _ hw) rfl rfl ⟨Nat.le_of_ble_eq_true rfl, Nat.le_of_ble_eq_true rfl⟩ kw_523 kw_524 kw_120 kw_525 pd_X11_isCell rfl hl.1 rfl (Nat.le_of_ble_eq_true rfl) ⟨Nat.le_of_ble_eq_true rfl, Nat.le_of_ble_eq_true rfl⟩ dX11_of_1) (fun r_2 σ_1 H locs hw h => ?_)
  obtain ⟨g_3, hwt, hwf⟩ := hw
  refine j_if_ne (tgt := 9) X g_3 dX11_of_4 (by decide) (fun c_27 => ?_) (fun c_27 => ?_)
  · have hw := hwt c_27
    refine lv_iload_n X.1 X.2.1 dX11_of_9 rfl (lv_at hl 2 rfl) ?_
    obtain ⟨g_4, hw0, hw1, hw2, hw3, hw4, hw5⟩ := hw
    by_cases c_21 : x2 = 0
    · have hw := hw0 c_21
      refine j_tin (v := 0) (tgt := 44) X g_4 c_21 dX11_of_10 (by decide) (by decide) rfl (by decide) ?_
      refine lv_aload_n X.1 X.2.1 dX11_of_44 rfl (lv_at hl 0 rfl) ?_
      refine r_getR (ci := 11) X inw_11 h (hF.1 11 rfl).1 rfl rfl 1 (by decide) kw_459 rfl ((hF.1 11 rfl).2 1) dX11_of_45 ?_
      refine r_getRN (ci := 3) X inw_3 h (hF.1 3 rfl).1 rfl rfl 0 (by decide) kw_187 rfl ((hF.1 3 rfl).2 0) dX11_of_48 ?_
      refine lv_iload_n X.1 X.2.1 dX11_of_51 rfl (lv_at hl 1 rfl) ?_
      obtain ⟨g_5, g_6, hw⟩ := hw
      refine r_iald (n := 64) X h (hF.1 28 rfl).1 rfl (by decide) g_5 g_6 dX11_of_52 ?_
      exact k_ir X rfl h hw dX11_of_53
    by_cases c_22 : x2 = 1
    · have hw := hw1 c_22
      refine j_tin (v := 1) (tgt := 54) X g_4 c_22 dX11_of_10 (by decide) (by decide) rfl (by decide) ?_
      refine lv_aload_n X.1 X.2.1 dX11_of_54 rfl (lv_at hl 0 rfl) ?_
      refine r_getR (ci := 11) X inw_11 h (hF.1 11 rfl).1 rfl rfl 1 (by decide) kw_459 rfl ((hF.1 11 rfl).2 1) dX11_of_55 ?_
      refine r_getRN (ci := 3) X inw_3 h (hF.1 3 rfl).1 rfl rfl 1 (by decide) kw_190 rfl ((hF.1 3 rfl).2 1) dX11_of_58 ?_
      refine lv_iload_n X.1 X.2.1 dX11_of_61 rfl (lv_at hl 1 rfl) ?_
      obtain ⟨g_7, g_8, hw⟩ := hw
      refine r_iald (n := 64) X h (hF.1 29 rfl).1 rfl (by decide) g_7 g_8 dX11_of_62 ?_
      exact k_ir X rfl h hw dX11_of_63
    by_cases c_23 : x2 = 2
    · have hw := hw2 c_23
      refine j_tin (v := 2) (tgt := 64) X g_4 c_23 dX11_of_10 (by decide) (by decide) rfl (by decide) ?_
      refine lv_aload_n X.1 X.2.1 dX11_of_64 rfl (lv_at hl 0 rfl) ?_
      refine r_getR (ci := 11) X inw_11 h (hF.1 11 rfl).1 rfl rfl 1 (by decide) kw_459 rfl ((hF.1 11 rfl).2 1) dX11_of_65 ?_
      refine r_getRN (ci := 3) X inw_3 h (hF.1 3 rfl).1 rfl rfl 3 (by decide) kw_195 rfl ((hF.1 3 rfl).2 3) dX11_of_68 ?_
      refine lv_iload_n X.1 X.2.1 dX11_of_71 rfl (lv_at hl 1 rfl) ?_
      obtain ⟨g_9, g_10, hw⟩ := hw
      refine r_iald (n := 64) X h (hF.1 31 rfl).1 rfl (by decide) g_9 g_10 dX11_of_72 ?_
      exact k_ir X rfl h hw dX11_of_73
    by_cases c_24 : x2 = 3
    · have hw := hw3 c_24
      refine j_tin (v := 3) (tgt := 74) X g_4 c_24 dX11_of_10 (by decide) (by decide) rfl (by decide) ?_
      refine lv_aload_n X.1 X.2.1 dX11_of_74 rfl (lv_at hl 0 rfl) ?_
      refine r_getR (ci := 11) X inw_11 h (hF.1 11 rfl).1 rfl rfl 1 (by decide) kw_459 rfl ((hF.1 11 rfl).2 1) dX11_of_75 ?_
      refine lv_iload_n X.1 X.2.1 dX11_of_78 rfl (lv_at hl 1 rfl) ?_
      refine k_i h (r_V (C := RX3) (ci := 3) (As := [.int (iv x1)]) (rest := []) X h (c_X3_far l D ct ad L φ N0 σ_1 x1 _ hw) rfl rfl ⟨Nat.le_of_ble_eq_true rfl, Nat.le_of_ble_eq_true rfl⟩ kw_581 kw_582 kw_583 kw_122 kw_584 ⟨rfl, pd_X3_far⟩ (hF.1 3 rfl).1 rfl rfl rfl hl.1 rfl (Nat.le_of_ble_eq_true rfl) ⟨Nat.le_of_ble_eq_true rfl, Nat.le_of_ble_eq_true rfl⟩ dX11_of_79) (fun r_12 σ_11 H locs hw h => ?_)
      exact k_ir X rfl h hw dX11_of_82
    by_cases c_25 : x2 = 4
    · have hw := hw4 c_25
      refine j_tin (v := 4) (tgt := 83) X g_4 c_25 dX11_of_10 (by decide) (by decide) rfl (by decide) ?_
      refine lv_aload_n X.1 X.2.1 dX11_of_83 rfl (lv_at hl 0 rfl) ?_
      refine r_getR (ci := 11) X inw_11 h (hF.1 11 rfl).1 rfl rfl 1 (by decide) kw_459 rfl ((hF.1 11 rfl).2 1) dX11_of_84 ?_
      refine lv_iload_n X.1 X.2.1 dX11_of_87 rfl (lv_at hl 1 rfl) ?_
      refine k_i h (r_V (C := RX3) (ci := 3) (As := [.int (iv x1)]) (rest := []) X h (c_X3_stemsIn l D ct ad L φ N0 σ_1 x1 _ hw) rfl rfl ⟨Nat.le_of_ble_eq_true rfl, Nat.le_of_ble_eq_true rfl⟩ kw_591 kw_592 kw_593 kw_122 kw_594 ⟨rfl, pd_X3_stemsIn⟩ (hF.1 3 rfl).1 rfl rfl rfl hl.1 rfl (Nat.le_of_ble_eq_true rfl) ⟨Nat.le_of_ble_eq_true rfl, Nat.le_of_ble_eq_true rfl⟩ dX11_of_88) (fun r_14 σ_13 H locs hw h => ?_)
      exact k_ir X rfl h hw dX11_of_91
    have c_26 : x2 < 0 ∨ 4 < x2 := by omega
    have hw := hw5 c_26
    refine j_tout (tgt := 92) X g_4 c_26 dX11_of_10 (by decide) ?_
    refine lv_iload_n X.1 X.2.1 dX11_of_92 rfl (lv_at hl 2 rfl) ?_
    refine j_iconst X dX11_of_93 ?_
    refine j_bipush X dX11_of_94 (by decide) ?_
    refine k_i h (r_S (As := [.int (iv x2), .int (iv 5), .int (iv 20)]) (rest := []) X h (c_X11_within l D ct ad L φ N0 σ_1 x2 5 20 _ hw) rfl rfl ⟨Nat.le_of_ble_eq_true rfl, Nat.le_of_ble_eq_true rfl⟩ kw_526 kw_527 kw_120 kw_528 pd_X11_within rfl hl.1 rfl (Nat.le_of_ble_eq_true rfl) ⟨Nat.le_of_ble_eq_true rfl, Nat.le_of_ble_eq_true rfl⟩ dX11_of_96) (fun r_16 σ_15 H locs hw h => ?_)
    obtain ⟨g_17, hwt, hwf⟩ := hw
    refine j_if_eq (tgt := 121) X g_17 dX11_of_99 (by decide) (fun c_20 => ?_) (fun c_20 => ?_)
    · have hw := hwt c_20
      refine j_iconst X dX11_of_121 ?_
      exact k_ir X rfl h hw dX11_of_122
    · have hw := hwf c_20
      refine lv_aload_n X.1 X.2.1 dX11_of_102 rfl (lv_at hl 0 rfl) ?_
      refine r_getR (ci := 11) X inw_11 h (hF.1 11 rfl).1 rfl rfl 1 (by decide) kw_459 rfl ((hF.1 11 rfl).2 1) dX11_of_103 ?_
      refine r_getRN (ci := 3) X inw_3 h (hF.1 3 rfl).1 rfl rfl 2 (by decide) kw_193 rfl ((hF.1 3 rfl).2 2) dX11_of_106 ?_
      refine lv_iload_n X.1 X.2.1 dX11_of_109 rfl (lv_at hl 1 rfl) ?_
      refine j_bipush X dX11_of_110 (by decide) ?_
      refine j_imul X dX11_of_112 ?_
      refine lv_iload_n X.1 X.2.1 dX11_of_113 rfl (lv_at hl 2 rfl) ?_
      refine j_iadd X dX11_of_114 ?_
      refine j_iconst X dX11_of_115 ?_
      refine j_isub X dX11_of_116 ?_
      obtain ⟨g_18, g_19, hw⟩ := hw
      refine r_iald (n := 1024) X h (hF.1 30 rfl).1 rfl (by decide) g_18 g_19 dX11_of_117 ?_
      refine lv_goto (tgt := 122) X.1 X.2.1 dX11_of_118 (by decide) ?_
      exact k_ir X rfl h hw dX11_of_122
  · have hw := hwf c_27
    refine j_iconst X dX11_of_7 ?_
    exact k_ir X rfl h hw dX11_of_8
end
section
variable {p : Program} {l : Launch} {e : Env} {s : State} {m : MethodId} {args : Array Value} {below : List Frame} {meth : Method} {c : Code} {D : va_G} {ct : Nat → ClassId} {ad : Nat → Nat → Nat} {L : List (Nat × Nat)} {φ : Nat → Nat → Nat → Bool} {N0 : Nat}
variable {Q : Int → St → Prop}
theorem pd_X11_price : yX11_price.cls ≠ "java/lang/invoke/MethodHandle" ∧ yX11_price.cls ≠ "java/lang/invoke/VarHandle" ∧ (parseMethodDescriptor yX11_price.desc).map (fun d => d.parameters.length) = some 2 := by decide +kernel
def wp_X11_price (σ : St) (x1 : Int) (x2 : Int) (Q : Int → St → Prop) : Prop := wp_X11_within σ x1 2 6 (fun r_2 σ_1 => inR r_2 ∧ (r_2 = 0 → Q 0 σ_1) ∧ (¬ r_2 = 0 → wp_X11_within σ_1 x2 0 99 (fun r_5 σ_4 => inR r_5 ∧ (¬ r_5 = 0 → 0 ≤ x1 ∧ x1 < 7 ∧ ∀ σ_9 : St, σ_9 = st σ_4 20 0 (Int.toNat x1) x2 → (Q 1 σ_9)) ∧ (r_5 = 0 → Q 0 σ_4))))
set_option maxRecDepth 100000 in
set_option maxHeartbeats 4000000 in
theorem c_X11_price (l : Launch) (D : va_G) (ct : Nat → ClassId) (ad : Nat → Nat → Nat) (L : List (Nat × Nat)) (φ : Nat → Nat → Nat → Bool) (N0 : Nat) (σ : St) (x1 : Int) (x2 : Int) (Q : Int → St → Prop) (hw : wp_X11_price σ x1 x2 Q) : Met l yX11_price (.code yX11_price cX11_price 3 (some .boolean) :: gw) ({ frames := 1, cells := 0, slots := 0, locals := 22 } : Room) (Pm D ct ad L φ N0 σ [.ref (ad 11 0), .int (iv x1), .int (iv x2)]) (Qi D ct ad L φ N0 Q) 0 0 (AA N0) := by
  refine m_of (by decide) (fun p e s m below meth c X hnm h => ?_)
  have hF := X.2.2.2.2.2.2.2.2.1
  have hl := lv_entry ([.ref (ad 11 0), .int (iv x1), .int (iv x2)]) (n := 3) (Nat.le_of_ble_eq_true rfl)
  rw [lg_entry_eq]
  generalize (lg_sl ([.ref (ad 11 0), .int (iv x1), .int (iv x2)]) ++ List.replicate (3 - (lg_sl ([.ref (ad 11 0), .int (iv x1), .int (iv x2)])).length) Slot.unset).toArray = ls at hl ⊢
  have hl : lv_has ls 3 [(0, .ref (ad 11 0)), (1, .int (iv x1)), (2, .int (iv x2))] := hl
  have h : Hs D ct ad L φ N0 s.heap σ s.heap [] := h
  unfold wp_X11_price at hw
  refine lv_iload_n X.1 X.2.1 dX11_price_0 rfl (lv_at hl 1 rfl) ?_
  refine j_iconst X dX11_price_1 ?_
  refine j_bipush X dX11_price_2 (by decide) ?_
  refine k_i h (r_S (As := [.int (iv x1), .int (iv 2), .int (iv 6)]) (rest := []) X h (c_X11_within l D ct ad L φ N0 σ x1 2 6 _ hw) rfl rfl ⟨Nat.le_of_ble_eq_true rfl, Nat.le_of_ble_eq_true rfl⟩ kw_526 kw_527 kw_120 kw_528 pd_X11_within rfl hl.1 rfl (Nat.le_of_ble_eq_true rfl) ⟨Nat.le_of_ble_eq_true rfl, Nat.le_of_ble_eq_true rfl⟩ dX11_price_4) (fun r_2 σ_1 H locs hw h => ?_)
  obtain ⟨g_3, hwt, hwf⟩ := hw
  refine j_if_eq (tgt := 20) X g_3 dX11_price_7 (by decide) (fun c_11 => ?_) (fun c_11 => ?_)
  · have hw := hwt c_11
    refine j_iconst X dX11_price_20 ?_
    exact k_ir X rfl h hw dX11_price_21
  · have hw := hwf c_11
    refine lv_iload_n X.1 X.2.1 dX11_price_10 rfl (lv_at hl 2 rfl) ?_
    refine j_iconst X dX11_price_11 ?_
    refine j_bipush X dX11_price_12 (by decide) ?_
    refine k_i h (r_S (As := [.int (iv x2), .int (iv 0), .int (iv 99)]) (rest := []) X h (c_X11_within l D ct ad L φ N0 σ_1 x2 0 99 _ hw) rfl rfl ⟨Nat.le_of_ble_eq_true rfl, Nat.le_of_ble_eq_true rfl⟩ kw_526 kw_527 kw_120 kw_528 pd_X11_within rfl hl.1 rfl (Nat.le_of_ble_eq_true rfl) ⟨Nat.le_of_ble_eq_true rfl, Nat.le_of_ble_eq_true rfl⟩ dX11_price_14) (fun r_5 σ_4 H locs hw h => ?_)
    obtain ⟨g_6, hwt, hwf⟩ := hw
    refine j_if_ne (tgt := 22) X g_6 dX11_price_17 (by decide) (fun c_10 => ?_) (fun c_10 => ?_)
    · have hw := hwt c_10
      refine lv_aload_n X.1 X.2.1 dX11_price_22 rfl (lv_at hl 0 rfl) ?_
      refine r_getR (ci := 11) X inw_11 h (hF.1 11 rfl).1 rfl rfl 2 (by decide) kw_460 rfl ((hF.1 11 rfl).2 2) dX11_price_23 ?_
      refine r_getRN (ci := 0) X inw_0 h (hF.1 0 rfl).1 rfl rfl 0 (by decide) kw_228 rfl ((hF.1 0 rfl).2 0) dX11_price_26 ?_
      refine lv_iload_n X.1 X.2.1 dX11_price_29 rfl (lv_at hl 1 rfl) ?_
      refine lv_iload_n X.1 X.2.1 dX11_price_30 rfl (lv_at hl 2 rfl) ?_
      obtain ⟨g_7, g_8, hw⟩ := hw
      refine r_iast (n := 7) X h (hF.1 20 rfl).1 (fun _ => rfl) (by decide) g_7 g_8 rfl dX11_price_31 (fun H locs h => ?_)
      obtain ⟨σ_9, eσ_9⟩ : ∃ z : St, z = st σ_4 20 0 (Int.toNat x1) x2 := ⟨_, rfl⟩
      rw [← eσ_9] at h
      have hw := hw σ_9 eσ_9
      refine j_iconst X dX11_price_32 ?_
      exact k_ir X rfl h hw dX11_price_33
    · have hw := hwf c_10
      refine j_iconst X dX11_price_20 ?_
      exact k_ir X rfl h hw dX11_price_21
end
section
variable {p : Program} {l : Launch} {e : Env} {s : State} {m : MethodId} {args : Array Value} {below : List Frame} {meth : Method} {c : Code} {D : va_G} {ct : Nat → ClassId} {ad : Nat → Nat → Nat} {L : List (Nat × Nat)} {φ : Nat → Nat → Nat → Bool} {N0 : Nat}
variable {Q : Int → St → Prop}
theorem pd_X11_buck : yX11_buck.cls ≠ "java/lang/invoke/MethodHandle" ∧ yX11_buck.cls ≠ "java/lang/invoke/VarHandle" ∧ (parseMethodDescriptor yX11_buck.desc).map (fun d => d.parameters.length) = some 2 := by decide +kernel
def wp_X11_buck (σ : St) (x1 : Int) (x2 : Int) (Q : Int → St → Prop) : Prop := wp_X11_isStem σ x1 x2 (fun r_2 σ_1 => inR r_2 ∧ (r_2 = 0 → Q (-1) σ_1) ∧ (¬ r_2 = 0 → wp_X0_chooseBest σ_1 x1 x2 (fun r_5 σ_4 => Q r_5 σ_4)))
set_option maxRecDepth 100000 in
set_option maxHeartbeats 4000000 in
theorem c_X11_buck (l : Launch) (D : va_G) (ct : Nat → ClassId) (ad : Nat → Nat → Nat) (L : List (Nat × Nat)) (φ : Nat → Nat → Nat → Bool) (N0 : Nat) (σ : St) (x1 : Int) (x2 : Int) (Q : Int → St → Prop) (hw : wp_X11_buck σ x1 x2 Q) : Met l yX11_buck (.code yX11_buck cX11_buck 3 (some .int) :: gw) ({ frames := 4, cells := 0, slots := 0, locals := 98 } : Room) (Pm D ct ad L φ N0 σ [.ref (ad 11 0), .int (iv x1), .int (iv x2)]) (Qi D ct ad L φ N0 Q) 0 0 (AA N0) := by
  refine m_of (by decide) (fun p e s m below meth c X hnm h => ?_)
  have hF := X.2.2.2.2.2.2.2.2.1
  have hl := lv_entry ([.ref (ad 11 0), .int (iv x1), .int (iv x2)]) (n := 3) (Nat.le_of_ble_eq_true rfl)
  rw [lg_entry_eq]
  generalize (lg_sl ([.ref (ad 11 0), .int (iv x1), .int (iv x2)]) ++ List.replicate (3 - (lg_sl ([.ref (ad 11 0), .int (iv x1), .int (iv x2)])).length) Slot.unset).toArray = ls at hl ⊢
  have hl : lv_has ls 3 [(0, .ref (ad 11 0)), (1, .int (iv x1)), (2, .int (iv x2))] := hl
  have h : Hs D ct ad L φ N0 s.heap σ s.heap [] := h
  unfold wp_X11_buck at hw
  refine lv_iload_n X.1 X.2.1 dX11_buck_0 rfl (lv_at hl 1 rfl) ?_
  refine lv_iload_n X.1 X.2.1 dX11_buck_1 rfl (lv_at hl 2 rfl) ?_
  refine k_i h (r_S (As := [.int (iv x1), .int (iv x2)]) (rest := []) X h (c_X11_isStem l D ct ad L φ N0 σ x1 x2 _ hw) rfl rfl ⟨Nat.le_of_ble_eq_true rfl, Nat.le_of_ble_eq_true rfl⟩ kw_533 kw_534 kw_120 kw_535 pd_X11_isStem rfl hl.1 rfl (Nat.le_of_ble_eq_true rfl) ⟨Nat.le_of_ble_eq_true rfl, Nat.le_of_ble_eq_true rfl⟩ dX11_buck_2) (fun r_2 σ_1 H locs hw h => ?_)
  obtain ⟨g_3, hwt, hwf⟩ := hw
  refine j_if_eq (tgt := 24) X g_3 dX11_buck_5 (by decide) (fun c_6 => ?_) (fun c_6 => ?_)
  · have hw := hwt c_6
    refine j_iconst X dX11_buck_24 ?_
    exact k_ir X rfl h hw dX11_buck_25
  · have hw := hwf c_6
    refine lv_aload_n X.1 X.2.1 dX11_buck_8 rfl (lv_at hl 0 rfl) ?_
    refine r_getR (ci := 11) X inw_11 h (hF.1 11 rfl).1 rfl rfl 2 (by decide) kw_460 rfl ((hF.1 11 rfl).2 2) dX11_buck_9 ?_
    refine lv_aload_n X.1 X.2.1 dX11_buck_12 rfl (lv_at hl 0 rfl) ?_
    refine r_getR (ci := 11) X inw_11 h (hF.1 11 rfl).1 rfl rfl 1 (by decide) kw_459 rfl ((hF.1 11 rfl).2 1) dX11_buck_13 ?_
    refine lv_iload_n X.1 X.2.1 dX11_buck_16 rfl (lv_at hl 1 rfl) ?_
    refine lv_iload_n X.1 X.2.1 dX11_buck_17 rfl (lv_at hl 2 rfl) ?_
    refine k_i h (r_V (C := RX0) (ci := 0) (As := [.ref (ad 3 0), .int (iv x1), .int (iv x2)]) (rest := []) X h (c_X0_chooseBest l D ct ad L φ N0 σ_1 x1 x2 _ hw) rfl rfl ⟨Nat.le_of_ble_eq_true rfl, Nat.le_of_ble_eq_true rfl⟩ kw_603 kw_604 kw_605 kw_123 kw_606 ⟨rfl, pd_X0_chooseBest⟩ (hF.1 0 rfl).1 rfl rfl rfl hl.1 rfl (Nat.le_of_ble_eq_true rfl) ⟨Nat.le_of_ble_eq_true rfl, Nat.le_of_ble_eq_true rfl⟩ dX11_buck_18) (fun r_5 σ_4 H locs hw h => ?_)
    refine lv_goto (tgt := 25) X.1 X.2.1 dX11_buck_21 (by decide) ?_
    exact k_ir X rfl h hw dX11_buck_25
end
section
variable {p : Program} {l : Launch} {e : Env} {s : State} {m : MethodId} {args : Array Value} {below : List Frame} {meth : Method} {c : Code} {D : va_G} {ct : Nat → ClassId} {ad : Nat → Nat → Nat} {L : List (Nat × Nat)} {φ : Nat → Nat → Nat → Bool} {N0 : Nat}
variable {Q : Int → St → Prop}
theorem pd_X11_piece : yX11_piece.cls ≠ "java/lang/invoke/MethodHandle" ∧ yX11_piece.cls ≠ "java/lang/invoke/VarHandle" ∧ (parseMethodDescriptor yX11_piece.desc).map (fun d => d.parameters.length) = some 3 := by decide +kernel
def wp_X11_piece (σ : St) (x1 : Int) (x2 : Int) (x3 : Int) (Q : Int → St → Prop) : Prop := wp_X11_isStem σ x1 x2 (fun r_2 σ_1 => inR r_2 ∧ (¬ r_2 = 0 → wp_X0_chooseBest σ_1 x1 x2 (fun r_5 σ_4 => wp_X11_within σ_4 x3 0 ((σ_4 0 0 4) - 1) (fun r_7 σ_6 => inR r_7 ∧ (r_7 = 0 → Q (-1) σ_6) ∧ (¬ r_7 = 0 → 0 ≤ x3 ∧ x3 < 5 ∧ Q (σ_6 23 0 (Int.toNat x3)) σ_6)))) ∧ (r_2 = 0 → Q (-1) σ_1))
set_option maxRecDepth 100000 in
set_option maxHeartbeats 4000000 in
theorem c_X11_piece (l : Launch) (D : va_G) (ct : Nat → ClassId) (ad : Nat → Nat → Nat) (L : List (Nat × Nat)) (φ : Nat → Nat → Nat → Bool) (N0 : Nat) (σ : St) (x1 : Int) (x2 : Int) (x3 : Int) (Q : Int → St → Prop) (hw : wp_X11_piece σ x1 x2 x3 Q) : Met l yX11_piece (.code yX11_piece cX11_piece 4 (some .int) :: gw) ({ frames := 4, cells := 0, slots := 0, locals := 98 } : Room) (Pm D ct ad L φ N0 σ [.ref (ad 11 0), .int (iv x1), .int (iv x2), .int (iv x3)]) (Qi D ct ad L φ N0 Q) 0 0 (AA N0) := by
  refine m_of (by decide) (fun p e s m below meth c X hnm h => ?_)
  have hF := X.2.2.2.2.2.2.2.2.1
  have hl := lv_entry ([.ref (ad 11 0), .int (iv x1), .int (iv x2), .int (iv x3)]) (n := 4) (Nat.le_of_ble_eq_true rfl)
  rw [lg_entry_eq]
  generalize (lg_sl ([.ref (ad 11 0), .int (iv x1), .int (iv x2), .int (iv x3)]) ++ List.replicate (4 - (lg_sl ([.ref (ad 11 0), .int (iv x1), .int (iv x2), .int (iv x3)])).length) Slot.unset).toArray = ls at hl ⊢
  have hl : lv_has ls 4 [(0, .ref (ad 11 0)), (1, .int (iv x1)), (2, .int (iv x2)), (3, .int (iv x3))] := hl
  have h : Hs D ct ad L φ N0 s.heap σ s.heap [] := h
  unfold wp_X11_piece at hw
  refine lv_iload_n X.1 X.2.1 dX11_piece_0 rfl (lv_at hl 1 rfl) ?_
  refine lv_iload_n X.1 X.2.1 dX11_piece_1 rfl (lv_at hl 2 rfl) ?_
  refine k_i h (r_S (As := [.int (iv x1), .int (iv x2)]) (rest := []) X h (c_X11_isStem l D ct ad L φ N0 σ x1 x2 _ hw) rfl rfl ⟨Nat.le_of_ble_eq_true rfl, Nat.le_of_ble_eq_true rfl⟩ kw_533 kw_534 kw_120 kw_535 pd_X11_isStem rfl hl.1 rfl (Nat.le_of_ble_eq_true rfl) ⟨Nat.le_of_ble_eq_true rfl, Nat.le_of_ble_eq_true rfl⟩ dX11_piece_2) (fun r_2 σ_1 H locs hw h => ?_)
  obtain ⟨g_3, hwt, hwf⟩ := hw
  refine j_if_ne (tgt := 10) X g_3 dX11_piece_5 (by decide) (fun c_12 => ?_) (fun c_12 => ?_)
  · have hw := hwt c_12
    refine lv_aload_n X.1 X.2.1 dX11_piece_10 rfl (lv_at hl 0 rfl) ?_
    refine r_getR (ci := 11) X inw_11 h (hF.1 11 rfl).1 rfl rfl 2 (by decide) kw_460 rfl ((hF.1 11 rfl).2 2) dX11_piece_11 ?_
    refine lv_aload_n X.1 X.2.1 dX11_piece_14 rfl (lv_at hl 0 rfl) ?_
    refine r_getR (ci := 11) X inw_11 h (hF.1 11 rfl).1 rfl rfl 1 (by decide) kw_459 rfl ((hF.1 11 rfl).2 1) dX11_piece_15 ?_
    refine lv_iload_n X.1 X.2.1 dX11_piece_18 rfl (lv_at hl 1 rfl) ?_
    refine lv_iload_n X.1 X.2.1 dX11_piece_19 rfl (lv_at hl 2 rfl) ?_
    refine k_i h (r_V (C := RX0) (ci := 0) (As := [.ref (ad 3 0), .int (iv x1), .int (iv x2)]) (rest := []) X h (c_X0_chooseBest l D ct ad L φ N0 σ_1 x1 x2 _ hw) rfl rfl ⟨Nat.le_of_ble_eq_true rfl, Nat.le_of_ble_eq_true rfl⟩ kw_603 kw_604 kw_605 kw_123 kw_606 ⟨rfl, pd_X0_chooseBest⟩ (hF.1 0 rfl).1 rfl rfl rfl hl.1 rfl (Nat.le_of_ble_eq_true rfl) ⟨Nat.le_of_ble_eq_true rfl, Nat.le_of_ble_eq_true rfl⟩ dX11_piece_20) (fun r_5 σ_4 H locs hw h => ?_)
    refine lv_pop X.1 X.2.1 dX11_piece_23 rfl ?_
    refine lv_iload_n X.1 X.2.1 dX11_piece_24 rfl (lv_at hl 3 rfl) ?_
    refine j_iconst X dX11_piece_25 ?_
    refine lv_aload_n X.1 X.2.1 dX11_piece_26 rfl (lv_at hl 0 rfl) ?_
    refine r_getR (ci := 11) X inw_11 h (hF.1 11 rfl).1 rfl rfl 2 (by decide) kw_460 rfl ((hF.1 11 rfl).2 2) dX11_piece_27 ?_
    refine r_getN (ci := 0) X inw_0 h (hF.1 0 rfl).1 rfl rfl 4 (by decide) kw_234 rfl dX11_piece_30 ?_
    refine j_iconst X dX11_piece_33 ?_
    refine j_isub X dX11_piece_34 ?_
    refine k_i h (r_S (As := [.int (iv x3), .int (iv 0), .int (iv ((σ_4 0 0 4) - 1))]) (rest := []) X h (c_X11_within l D ct ad L φ N0 σ_4 x3 0 ((σ_4 0 0 4) - 1) _ hw) rfl rfl ⟨Nat.le_of_ble_eq_true rfl, Nat.le_of_ble_eq_true rfl⟩ kw_526 kw_527 kw_120 kw_528 pd_X11_within rfl hl.1 rfl (Nat.le_of_ble_eq_true rfl) ⟨Nat.le_of_ble_eq_true rfl, Nat.le_of_ble_eq_true rfl⟩ dX11_piece_35) (fun r_7 σ_6 H locs hw h => ?_)
    obtain ⟨g_8, hwt, hwf⟩ := hw
    refine j_if_eq (tgt := 53) X g_8 dX11_piece_38 (by decide) (fun c_11 => ?_) (fun c_11 => ?_)
    · have hw := hwt c_11
      refine j_iconst X dX11_piece_53 ?_
      exact k_ir X rfl h hw dX11_piece_54
    · have hw := hwf c_11
      refine lv_aload_n X.1 X.2.1 dX11_piece_41 rfl (lv_at hl 0 rfl) ?_
      refine r_getR (ci := 11) X inw_11 h (hF.1 11 rfl).1 rfl rfl 2 (by decide) kw_460 rfl ((hF.1 11 rfl).2 2) dX11_piece_42 ?_
      refine r_getRN (ci := 0) X inw_0 h (hF.1 0 rfl).1 rfl rfl 3 (by decide) kw_232 rfl ((hF.1 0 rfl).2 3) dX11_piece_45 ?_
      refine lv_iload_n X.1 X.2.1 dX11_piece_48 rfl (lv_at hl 3 rfl) ?_
      obtain ⟨g_9, g_10, hw⟩ := hw
      refine r_iald (n := 5) X h (hF.1 23 rfl).1 rfl (by decide) g_9 g_10 dX11_piece_49 ?_
      refine lv_goto (tgt := 54) X.1 X.2.1 dX11_piece_50 (by decide) ?_
      exact k_ir X rfl h hw dX11_piece_54
  · have hw := hwf c_12
    refine j_iconst X dX11_piece_8 ?_
    exact k_ir X rfl h hw dX11_piece_9
end
section
variable {p : Program} {l : Launch} {e : Env} {s : State} {m : MethodId} {args : Array Value} {below : List Frame} {meth : Method} {c : Code} {D : va_G} {ct : Nat → ClassId} {ad : Nat → Nat → Nat} {L : List (Nat × Nat)} {φ : Nat → Nat → Nat → Bool} {N0 : Nat}
variable {Q : Int → St → Prop}
theorem pd_X11_worth : yX11_worth.cls ≠ "java/lang/invoke/MethodHandle" ∧ yX11_worth.cls ≠ "java/lang/invoke/VarHandle" ∧ (parseMethodDescriptor yX11_worth.desc).map (fun d => d.parameters.length) = some 3 := by decide +kernel
def wp_X11_worth (σ : St) (x1 : Int) (x2 : Int) (x3 : Int) (Q : Int → St → Prop) : Prop := wp_X11_isStem σ x1 x2 (fun r_2 σ_1 => inR r_2 ∧ (r_2 = 0 → Q (-1) σ_1) ∧ (¬ r_2 = 0 → wp_X0_chooseRow σ_1 x1 x2 x3 (fun r_5 σ_4 => Q r_5 σ_4)))
set_option maxRecDepth 100000 in
set_option maxHeartbeats 4000000 in
theorem c_X11_worth (l : Launch) (D : va_G) (ct : Nat → ClassId) (ad : Nat → Nat → Nat) (L : List (Nat × Nat)) (φ : Nat → Nat → Nat → Bool) (N0 : Nat) (σ : St) (x1 : Int) (x2 : Int) (x3 : Int) (Q : Int → St → Prop) (hw : wp_X11_worth σ x1 x2 x3 Q) : Met l yX11_worth (.code yX11_worth cX11_worth 4 (some .int) :: gw) ({ frames := 3, cells := 0, slots := 0, locals := 74 } : Room) (Pm D ct ad L φ N0 σ [.ref (ad 11 0), .int (iv x1), .int (iv x2), .int (iv x3)]) (Qi D ct ad L φ N0 Q) 0 0 (AA N0) := by
  refine m_of (by decide) (fun p e s m below meth c X hnm h => ?_)
  have hF := X.2.2.2.2.2.2.2.2.1
  have hl := lv_entry ([.ref (ad 11 0), .int (iv x1), .int (iv x2), .int (iv x3)]) (n := 4) (Nat.le_of_ble_eq_true rfl)
  rw [lg_entry_eq]
  generalize (lg_sl ([.ref (ad 11 0), .int (iv x1), .int (iv x2), .int (iv x3)]) ++ List.replicate (4 - (lg_sl ([.ref (ad 11 0), .int (iv x1), .int (iv x2), .int (iv x3)])).length) Slot.unset).toArray = ls at hl ⊢
  have hl : lv_has ls 4 [(0, .ref (ad 11 0)), (1, .int (iv x1)), (2, .int (iv x2)), (3, .int (iv x3))] := hl
  have h : Hs D ct ad L φ N0 s.heap σ s.heap [] := h
  unfold wp_X11_worth at hw
  refine lv_iload_n X.1 X.2.1 dX11_worth_0 rfl (lv_at hl 1 rfl) ?_
  refine lv_iload_n X.1 X.2.1 dX11_worth_1 rfl (lv_at hl 2 rfl) ?_
  refine k_i h (r_S (As := [.int (iv x1), .int (iv x2)]) (rest := []) X h (c_X11_isStem l D ct ad L φ N0 σ x1 x2 _ hw) rfl rfl ⟨Nat.le_of_ble_eq_true rfl, Nat.le_of_ble_eq_true rfl⟩ kw_533 kw_534 kw_120 kw_535 pd_X11_isStem rfl hl.1 rfl (Nat.le_of_ble_eq_true rfl) ⟨Nat.le_of_ble_eq_true rfl, Nat.le_of_ble_eq_true rfl⟩ dX11_worth_2) (fun r_2 σ_1 H locs hw h => ?_)
  obtain ⟨g_3, hwt, hwf⟩ := hw
  refine j_if_eq (tgt := 25) X g_3 dX11_worth_5 (by decide) (fun c_6 => ?_) (fun c_6 => ?_)
  · have hw := hwt c_6
    refine j_iconst X dX11_worth_25 ?_
    exact k_ir X rfl h hw dX11_worth_26
  · have hw := hwf c_6
    refine lv_aload_n X.1 X.2.1 dX11_worth_8 rfl (lv_at hl 0 rfl) ?_
    refine r_getR (ci := 11) X inw_11 h (hF.1 11 rfl).1 rfl rfl 2 (by decide) kw_460 rfl ((hF.1 11 rfl).2 2) dX11_worth_9 ?_
    refine lv_aload_n X.1 X.2.1 dX11_worth_12 rfl (lv_at hl 0 rfl) ?_
    refine r_getR (ci := 11) X inw_11 h (hF.1 11 rfl).1 rfl rfl 1 (by decide) kw_459 rfl ((hF.1 11 rfl).2 1) dX11_worth_13 ?_
    refine lv_iload_n X.1 X.2.1 dX11_worth_16 rfl (lv_at hl 1 rfl) ?_
    refine lv_iload_n X.1 X.2.1 dX11_worth_17 rfl (lv_at hl 2 rfl) ?_
    refine lv_iload_n X.1 X.2.1 dX11_worth_18 rfl (lv_at hl 3 rfl) ?_
    refine k_i h (r_V (C := RX0) (ci := 0) (As := [.ref (ad 3 0), .int (iv x1), .int (iv x2), .int (iv x3)]) (rest := []) X h (c_X0_chooseRow l D ct ad L φ N0 σ_1 x1 x2 x3 _ hw) rfl rfl ⟨Nat.le_of_ble_eq_true rfl, Nat.le_of_ble_eq_true rfl⟩ kw_629 kw_630 kw_631 kw_123 kw_632 ⟨rfl, pd_X0_chooseRow⟩ (hF.1 0 rfl).1 rfl rfl rfl hl.1 rfl (Nat.le_of_ble_eq_true rfl) ⟨Nat.le_of_ble_eq_true rfl, Nat.le_of_ble_eq_true rfl⟩ dX11_worth_19) (fun r_5 σ_4 H locs hw h => ?_)
    refine lv_goto (tgt := 26) X.1 X.2.1 dX11_worth_22 (by decide) ?_
    exact k_ir X rfl h hw dX11_worth_26
end
section
variable {p : Program} {l : Launch} {e : Env} {s : State} {m : MethodId} {args : Array Value} {below : List Frame} {meth : Method} {c : Code} {D : va_G} {ct : Nat → ClassId} {ad : Nat → Nat → Nat} {L : List (Nat × Nat)} {φ : Nat → Nat → Nat → Bool} {N0 : Nat}
variable {Q : Option Nat → St → Prop}
theorem pd_X11_crewAt : yX11_crewAt.cls ≠ "java/lang/invoke/MethodHandle" ∧ yX11_crewAt.cls ≠ "java/lang/invoke/VarHandle" ∧ (parseMethodDescriptor yX11_crewAt.desc).map (fun d => d.parameters.length) = some 1 := by decide +kernel
def wp_X11_crewAt (σ : St) (x1 : Int) (Q : Option Nat → St → Prop) : Prop := wp_X11_within σ x1 0 ((σ 11 0 11) - 1) (fun r_2 σ_1 => inR r_2 ∧ (r_2 = 0 → Q none σ_1) ∧ (¬ r_2 = 0 → 0 ≤ x1 ∧ x1 < 20 ∧ (σ_1 79 0 (Int.toNat x1) = 0 → Q none σ_1) ∧ (σ_1 79 0 (Int.toNat x1) ≠ 0 → σ_1 50 1 (Int.toNat x1) ≠ 0 → Q (some (Int.toNat x1)) σ_1)))
set_option maxRecDepth 100000 in
set_option maxHeartbeats 4000000 in
theorem c_X11_crewAt (l : Launch) (D : va_G) (ct : Nat → ClassId) (ad : Nat → Nat → Nat) (L : List (Nat × Nat)) (φ : Nat → Nat → Nat → Bool) (N0 : Nat) (σ : St) (x1 : Int) (Q : Option Nat → St → Prop) (hw : wp_X11_crewAt σ x1 Q) : Met l yX11_crewAt (.code yX11_crewAt cX11_crewAt 2 (some (.object "TimberValley$Crew")) :: gw) ({ frames := 1, cells := 0, slots := 0, locals := 22 } : Room) (Pm D ct ad L φ N0 σ [.ref (ad 11 0), .int (iv x1)]) (Qo D ct ad L φ N0 1 Q) 0 0 (AA N0) := by
  refine m_of (by decide) (fun p e s m below meth c X hnm h => ?_)
  have hF := X.2.2.2.2.2.2.2.2.1
  have hl := lv_entry ([.ref (ad 11 0), .int (iv x1)]) (n := 2) (Nat.le_of_ble_eq_true rfl)
  rw [lg_entry_eq]
  generalize (lg_sl ([.ref (ad 11 0), .int (iv x1)]) ++ List.replicate (2 - (lg_sl ([.ref (ad 11 0), .int (iv x1)])).length) Slot.unset).toArray = ls at hl ⊢
  have hl : lv_has ls 2 [(0, .ref (ad 11 0)), (1, .int (iv x1))] := hl
  have h : Hs D ct ad L φ N0 s.heap σ s.heap [] := h
  unfold wp_X11_crewAt at hw
  refine lv_iload_n X.1 X.2.1 dX11_crewAt_0 rfl (lv_at hl 1 rfl) ?_
  refine j_iconst X dX11_crewAt_1 ?_
  refine lv_aload_n X.1 X.2.1 dX11_crewAt_2 rfl (lv_at hl 0 rfl) ?_
  refine r_get (ci := 11) X inw_11 h (hF.1 11 rfl).1 rfl rfl 11 (by decide) kw_469 rfl dX11_crewAt_3 ?_
  refine j_iconst X dX11_crewAt_6 ?_
  refine j_isub X dX11_crewAt_7 ?_
  refine k_i h (r_S (As := [.int (iv x1), .int (iv 0), .int (iv ((σ 11 0 11) - 1))]) (rest := []) X h (c_X11_within l D ct ad L φ N0 σ x1 0 ((σ 11 0 11) - 1) _ hw) rfl rfl ⟨Nat.le_of_ble_eq_true rfl, Nat.le_of_ble_eq_true rfl⟩ kw_526 kw_527 kw_120 kw_528 pd_X11_within rfl hl.1 rfl (Nat.le_of_ble_eq_true rfl) ⟨Nat.le_of_ble_eq_true rfl, Nat.le_of_ble_eq_true rfl⟩ dX11_crewAt_8) (fun r_2 σ_1 H locs hw h => ?_)
  obtain ⟨g_3, hwt, hwf⟩ := hw
  refine j_if_eq (tgt := 23) X g_3 dX11_crewAt_11 (by decide) (fun c_8 => ?_) (fun c_8 => ?_)
  · have hw := hwt c_8
    refine lv_null X.1 X.2.1 dX11_crewAt_23 ?_
    exact k_on X h hw dX11_crewAt_24
  · have hw := hwf c_8
    refine lv_aload_n X.1 X.2.1 dX11_crewAt_14 rfl (lv_at hl 0 rfl) ?_
    refine r_getR (ci := 11) X inw_11 h (hF.1 11 rfl).1 rfl rfl 10 (by decide) kw_468 rfl ((hF.1 11 rfl).2 10) dX11_crewAt_15 ?_
    refine lv_iload_n X.1 X.2.1 dX11_crewAt_18 rfl (lv_at hl 1 rfl) ?_
    obtain ⟨g_4, g_5, hwt, hwf⟩ := hw
    refine r_aaD (n := 20) (t := 5) X h (hF.1 79 rfl).1 rfl rfl (by decide) g_4 g_5 dX11_crewAt_19 (fun c_6 => ?_) (fun c_6 => ?_)
    · have hw := hwt c_6
      refine lv_goto (tgt := 24) X.1 X.2.1 dX11_crewAt_20 (by decide) ?_
      exact k_on X h hw dX11_crewAt_24
    · have hw := hwf c_6 (h.2.2.2.2.2.2.2 _ c_6)
      refine lv_goto (tgt := 24) X.1 X.2.1 dX11_crewAt_20 (by decide) ?_
      exact k_os X h hw dX11_crewAt_24
end
section
variable {p : Program} {l : Launch} {e : Env} {s : State} {m : MethodId} {args : Array Value} {below : List Frame} {meth : Method} {c : Code} {D : va_G} {ct : Nat → ClassId} {ad : Nat → Nat → Nat} {L : List (Nat × Nat)} {φ : Nat → Nat → Nat → Bool} {N0 : Nat}
variable {Q : St → Prop}
def wp_X11_become_22 (Q : St → Prop) (σ : St) (j1 : Nat) (x2 : Int) (x3 : Int) (y0 : Int) : Prop := σ 50 4 j1 ≠ 0 ∧ 0 ≤ (σ 4 j1 5) ∧ (σ 4 j1 5) < 64 ∧ 0 ≤ (σ 4 j1 5) ∧ (σ 4 j1 5) < 64 ∧ ∀ σ_6 : St, σ_6 = st σ 31 0 (Int.toNat (σ 4 j1 5)) ((σ 31 0 (Int.toNat (σ 4 j1 5))) + (y0 - x3)) → (σ_6 50 4 j1 ≠ 0 ∧ wp_X3_far σ_6 (σ_6 4 j1 5) (fun r_9 σ_8 => inR r_9 ∧ σ_8 50 4 j1 ≠ 0 ∧ wp_X4_change σ_8 j1 x2 (σ_6 7 0 3) ((σ_6 7 0 3) + (Int.tdiv r_9 4)) (fun σ_12 => Q σ_12)))
set_option maxRecDepth 100000 in
set_option maxHeartbeats 4000000 in
theorem lb_X11_become_22 (X : Cx p s m meth c args cX11_become 5 none RX11 D ct L φ N0) (σ : St) (j1 : Nat) (x2 : Int) (x3 : Int) (y0 : Int) (H : Heap) (locs : List Loc) (ls : Array Slot) (hw : wp_X11_become_22 Q σ j1 x2 x3 y0) (h : Hs D ct ad L φ N0 s.heap σ H locs) (hl : lv_has ls 5 [(0, .ref (ad 11 0)), (1, .ref (ad 4 j1)), (2, .int (iv x2)), (3, .int (iv x3))]) : W p l e ({ frames := 3, cells := 0, slots := 0, locals := 62 } : Room) s m args below meth c H locs 0 0 (MQ below (Qv D ct ad L φ N0 Q) args s 0 0 (AA N0)) (F0 m 22 ls [.int (iv y0)]) := by
  have hF := X.2.2.2.2.2.2.2.2.1
  unfold wp_X11_become_22 at hw
  refine lv_istore (lv' := [(4, .int (iv y0)), (0, .ref (ad 11 0)), (1, .ref (ad 4 j1)), (2, .int (iv x2)), (3, .int (iv x3))]) X.1 X.2.1 dX11_become_22 hl (by decide) rfl (fun ls hl => ?_)
  refine lv_aload_n X.1 X.2.1 dX11_become_24 rfl (lv_at hl 1 rfl) ?_
  refine r_getR (ci := 11) X inw_11 h (hF.1 11 rfl).1 rfl rfl 1 (by decide) kw_459 rfl ((hF.1 11 rfl).2 1) dX11_become_25 ?_
  refine r_getRN (ci := 3) X inw_3 h (hF.1 3 rfl).1 rfl rfl 3 (by decide) kw_195 rfl ((hF.1 3 rfl).2 3) dX11_become_28 ?_
  refine lv_aload_n X.1 X.2.1 dX11_become_31 rfl (lv_at hl 2 rfl) ?_
  obtain ⟨g_1, hw⟩ := hw
  refine r_getN (ci := 4) X inw_4 h (h.2.2.1 j1 g_1).1 rfl rfl 5 (by decide) kw_716 rfl dX11_become_32 ?_
  refine lv_dup2_11 X.1 X.2.1 dX11_become_35 rfl rfl ?_
  obtain ⟨g_2, g_3, hw⟩ := hw
  refine r_iald (n := 64) X h (hF.1 31 rfl).1 rfl (by decide) g_2 g_3 dX11_become_36 ?_
  refine lv_iload X.1 X.2.1 dX11_become_37 (lv_at hl 0 rfl) ?_
  refine lv_iload_n X.1 X.2.1 dX11_become_39 rfl (lv_at hl 4 rfl) ?_
  refine j_isub X dX11_become_40 ?_
  refine j_iadd X dX11_become_41 ?_
  obtain ⟨g_4, g_5, hw⟩ := hw
  refine r_iast (n := 64) X h (hF.1 31 rfl).1 (fun _ => rfl) (by decide) g_4 g_5 rfl dX11_become_42 (fun H locs h => ?_)
  obtain ⟨σ_6, eσ_6⟩ : ∃ z : St, z = st σ 31 0 (Int.toNat (σ 4 j1 5)) ((σ 31 0 (Int.toNat (σ 4 j1 5))) + (y0 - x3)) := ⟨_, rfl⟩
  rw [← eσ_6] at h
  have hw := hw σ_6 eσ_6
  refine lv_aload_n X.1 X.2.1 dX11_become_43 rfl (lv_at hl 2 rfl) ?_
  refine lv_iload_n X.1 X.2.1 dX11_become_44 rfl (lv_at hl 3 rfl) ?_
  refine lv_aload_n X.1 X.2.1 dX11_become_45 rfl (lv_at hl 1 rfl) ?_
  refine r_getR (ci := 11) X inw_11 h (hF.1 11 rfl).1 rfl rfl 0 (by decide) kw_458 rfl ((hF.1 11 rfl).2 0) dX11_become_46 ?_
  refine r_getN (ci := 7) X inw_7 h (hF.1 7 rfl).1 rfl rfl 3 (by decide) kw_164 rfl dX11_become_49 ?_
  refine lv_aload_n X.1 X.2.1 dX11_become_52 rfl (lv_at hl 1 rfl) ?_
  refine r_getR (ci := 11) X inw_11 h (hF.1 11 rfl).1 rfl rfl 0 (by decide) kw_458 rfl ((hF.1 11 rfl).2 0) dX11_become_53 ?_
  refine r_getN (ci := 7) X inw_7 h (hF.1 7 rfl).1 rfl rfl 3 (by decide) kw_164 rfl dX11_become_56 ?_
  refine lv_aload_n X.1 X.2.1 dX11_become_59 rfl (lv_at hl 1 rfl) ?_
  refine r_getR (ci := 11) X inw_11 h (hF.1 11 rfl).1 rfl rfl 1 (by decide) kw_459 rfl ((hF.1 11 rfl).2 1) dX11_become_60 ?_
  refine lv_aload_n X.1 X.2.1 dX11_become_63 rfl (lv_at hl 2 rfl) ?_
  obtain ⟨g_7, hw⟩ := hw
  refine r_getN (ci := 4) X inw_4 h (h.2.2.1 j1 g_7).1 rfl rfl 5 (by decide) kw_716 rfl dX11_become_64 ?_
  refine k_i h (r_V (C := RX3) (ci := 3) (As := [.int (iv (σ_6 4 j1 5))]) (rest := [.int (iv (σ_6 7 0 3)), .int (iv (σ_6 7 0 3)), .int (iv x2), .ref (ad 4 j1)]) X h (c_X3_far l D ct ad L φ N0 σ_6 (σ_6 4 j1 5) _ hw) rfl rfl ⟨Nat.le_of_ble_eq_true rfl, Nat.le_of_ble_eq_true rfl⟩ kw_581 kw_582 kw_583 kw_122 kw_584 ⟨rfl, pd_X3_far⟩ (hF.1 3 rfl).1 rfl rfl rfl hl.1 rfl (Nat.le_of_ble_eq_true rfl) ⟨Nat.le_of_ble_eq_true rfl, Nat.le_of_ble_eq_true rfl⟩ dX11_become_67) (fun r_9 σ_8 H locs hw h => ?_)
  refine j_iconst X dX11_become_70 ?_
  obtain ⟨g_10, hw⟩ := hw
  refine j_idiv X g_10 ⟨by decide, by decide⟩ (by decide) (by decide) dX11_become_71 ?_
  refine j_iadd X dX11_become_72 ?_
  obtain ⟨g_11, hw⟩ := hw
  refine k_v h (r_V (C := RX4) (ci := 4) (As := [.int (iv x2), .int (iv (σ_6 7 0 3)), .int (iv ((σ_6 7 0 3) + (Int.tdiv r_9 4)))]) (rest := []) X h (c_X4_change l D ct ad L φ N0 σ_8 j1 x2 (σ_6 7 0 3) ((σ_6 7 0 3) + (Int.tdiv r_9 4)) _ hw) rfl rfl ⟨Nat.le_of_ble_eq_true rfl, Nat.le_of_ble_eq_true rfl⟩ kw_776 kw_777 kw_778 kw_131 kw_779 ⟨rfl, pd_X4_change⟩ (h.2.2.1 j1 g_11).1 rfl rfl rfl hl.1 rfl (Nat.le_of_ble_eq_true rfl) ⟨Nat.le_of_ble_eq_true rfl, Nat.le_of_ble_eq_true rfl⟩ dX11_become_73) (fun σ_12 H locs hw h => ?_)
  exact k_vr X h hw dX11_become_76
def wp_X11_become_12 (Q : St → Prop) (σ : St) (j1 : Nat) (x2 : Int) (y0 : Int) : Prop := inR x2 ∧ (¬ x2 = 0 → wp_X11_become_22 Q σ j1 x2 y0 0) ∧ (x2 = 0 → wp_X11_become_22 Q σ j1 x2 y0 1)
set_option maxRecDepth 100000 in
set_option maxHeartbeats 4000000 in
theorem lb_X11_become_12 (X : Cx p s m meth c args cX11_become 5 none RX11 D ct L φ N0) (σ : St) (j1 : Nat) (x2 : Int) (y0 : Int) (H : Heap) (locs : List Loc) (ls : Array Slot) (hw : wp_X11_become_12 Q σ j1 x2 y0) (h : Hs D ct ad L φ N0 s.heap σ H locs) (hl : lv_has ls 5 [(0, .ref (ad 11 0)), (1, .ref (ad 4 j1)), (2, .int (iv x2))]) : W p l e ({ frames := 3, cells := 0, slots := 0, locals := 62 } : Room) s m args below meth c H locs 0 0 (MQ below (Qv D ct ad L φ N0 Q) args s 0 0 (AA N0)) (F0 m 12 ls [.int (iv y0)]) := by
  have hF := X.2.2.2.2.2.2.2.2.1
  unfold wp_X11_become_12 at hw
  refine lv_istore_n (lv' := [(3, .int (iv y0)), (0, .ref (ad 11 0)), (1, .ref (ad 4 j1)), (2, .int (iv x2))]) X.1 X.2.1 dX11_become_12 rfl hl (by decide) rfl (fun ls hl => ?_)
  refine lv_iload_n X.1 X.2.1 dX11_become_13 rfl (lv_at hl 3 rfl) ?_
  obtain ⟨g_13, hwt, hwf⟩ := hw
  refine j_if_ne (tgt := 21) X g_13 dX11_become_14 (by decide) (fun c_14 => ?_) (fun c_14 => ?_)
  · have hw := hwt c_14
    refine j_iconst X dX11_become_21 ?_
    exact lb_X11_become_22 X σ j1 x2 y0 0 _ _ _ hw h (lv_sub hl [1, 2, 3, 0] rfl)
  · have hw := hwf c_14
    refine j_iconst X dX11_become_17 ?_
    refine lv_goto (tgt := 22) X.1 X.2.1 dX11_become_18 (by decide) ?_
    exact lb_X11_become_22 X σ j1 x2 y0 1 _ _ _ hw h (lv_sub hl [1, 2, 3, 0] rfl)
theorem pd_X11_become : yX11_become.cls ≠ "java/lang/invoke/MethodHandle" ∧ yX11_become.cls ≠ "java/lang/invoke/VarHandle" ∧ (parseMethodDescriptor yX11_become.desc).map (fun d => d.parameters.length) = some 2 := by decide +kernel
def wp_X11_become (σ : St) (j1 : Nat) (x2 : Int) (Q : St → Prop) : Prop := σ 50 4 j1 ≠ 0 ∧ inR (σ 4 j1 8) ∧ (¬ (σ 4 j1 8) = 0 → wp_X11_become_12 Q σ j1 x2 0) ∧ ((σ 4 j1 8) = 0 → wp_X11_become_12 Q σ j1 x2 1)
set_option maxRecDepth 100000 in
set_option maxHeartbeats 4000000 in
theorem c_X11_become (l : Launch) (D : va_G) (ct : Nat → ClassId) (ad : Nat → Nat → Nat) (L : List (Nat × Nat)) (φ : Nat → Nat → Nat → Bool) (N0 : Nat) (σ : St) (j1 : Nat) (x2 : Int) (Q : St → Prop) (hw : wp_X11_become σ j1 x2 Q) : Met l yX11_become (.code yX11_become cX11_become 5 none :: gw) ({ frames := 3, cells := 0, slots := 0, locals := 62 } : Room) (Pm D ct ad L φ N0 σ [.ref (ad 11 0), .ref (ad 4 j1), .int (iv x2)]) (Qv D ct ad L φ N0 Q) 0 0 (AA N0) := by
  refine m_of (by decide) (fun p e s m below meth c X hnm h => ?_)
  have hF := X.2.2.2.2.2.2.2.2.1
  have hl := lv_entry ([.ref (ad 11 0), .ref (ad 4 j1), .int (iv x2)]) (n := 5) (Nat.le_of_ble_eq_true rfl)
  rw [lg_entry_eq]
  generalize (lg_sl ([.ref (ad 11 0), .ref (ad 4 j1), .int (iv x2)]) ++ List.replicate (5 - (lg_sl ([.ref (ad 11 0), .ref (ad 4 j1), .int (iv x2)])).length) Slot.unset).toArray = ls at hl ⊢
  have hl : lv_has ls 5 [(0, .ref (ad 11 0)), (1, .ref (ad 4 j1)), (2, .int (iv x2))] := hl
  have h : Hs D ct ad L φ N0 s.heap σ s.heap [] := h
  unfold wp_X11_become at hw
  refine lv_aload_n X.1 X.2.1 dX11_become_0 rfl (lv_at hl 1 rfl) ?_
  obtain ⟨g_15, hw⟩ := hw
  refine r_getN (ci := 4) X inw_4 h (h.2.2.1 j1 g_15).1 rfl rfl 8 (by decide) kw_721 rfl dX11_become_1 ?_
  obtain ⟨g_16, hwt, hwf⟩ := hw
  refine j_if_ne (tgt := 11) X g_16 dX11_become_4 (by decide) (fun c_17 => ?_) (fun c_17 => ?_)
  · have hw := hwt c_17
    refine j_iconst X dX11_become_11 ?_
    exact lb_X11_become_12 X σ j1 x2 0 _ _ _ hw h (lv_sub hl [0, 1, 2] rfl)
  · have hw := hwf c_17
    refine j_iconst X dX11_become_7 ?_
    refine lv_goto (tgt := 12) X.1 X.2.1 dX11_become_8 (by decide) ?_
    exact lb_X11_become_12 X σ j1 x2 1 _ _ _ hw h (lv_sub hl [0, 1, 2] rfl)
end
section
variable {p : Program} {l : Launch} {e : Env} {s : State} {m : MethodId} {args : Array Value} {below : List Frame} {meth : Method} {c : Code} {D : va_G} {ct : Nat → ClassId} {ad : Nat → Nat → Nat} {L : List (Nat × Nat)} {φ : Nat → Nat → Nat → Bool} {N0 : Nat}
variable {Q : Option Nat → St → Prop}
theorem pd_X11_logAt : yX11_logAt.cls ≠ "java/lang/invoke/MethodHandle" ∧ yX11_logAt.cls ≠ "java/lang/invoke/VarHandle" ∧ (parseMethodDescriptor yX11_logAt.desc).map (fun d => d.parameters.length) = some 1 := by decide +kernel
def wp_X11_logAt (σ : St) (x1 : Int) (Q : Option Nat → St → Prop) : Prop := wp_X11_within σ x1 0 ((σ 11 0 4) - 1) (fun r_2 σ_1 => inR r_2 ∧ (r_2 = 0 → Q none σ_1) ∧ (¬ r_2 = 0 → 0 ≤ x1 ∧ x1 < 300 ∧ (σ_1 77 0 (Int.toNat x1) = 0 → Q none σ_1) ∧ (σ_1 77 0 (Int.toNat x1) ≠ 0 → σ_1 50 4 (Int.toNat x1) ≠ 0 → Q (some (Int.toNat x1)) σ_1)))
set_option maxRecDepth 100000 in
set_option maxHeartbeats 4000000 in
theorem c_X11_logAt (l : Launch) (D : va_G) (ct : Nat → ClassId) (ad : Nat → Nat → Nat) (L : List (Nat × Nat)) (φ : Nat → Nat → Nat → Bool) (N0 : Nat) (σ : St) (x1 : Int) (Q : Option Nat → St → Prop) (hw : wp_X11_logAt σ x1 Q) : Met l yX11_logAt (.code yX11_logAt cX11_logAt 2 (some (.object "TimberValley$Log")) :: gw) ({ frames := 1, cells := 0, slots := 0, locals := 22 } : Room) (Pm D ct ad L φ N0 σ [.ref (ad 11 0), .int (iv x1)]) (Qo D ct ad L φ N0 4 Q) 0 0 (AA N0) := by
  refine m_of (by decide) (fun p e s m below meth c X hnm h => ?_)
  have hF := X.2.2.2.2.2.2.2.2.1
  have hl := lv_entry ([.ref (ad 11 0), .int (iv x1)]) (n := 2) (Nat.le_of_ble_eq_true rfl)
  rw [lg_entry_eq]
  generalize (lg_sl ([.ref (ad 11 0), .int (iv x1)]) ++ List.replicate (2 - (lg_sl ([.ref (ad 11 0), .int (iv x1)])).length) Slot.unset).toArray = ls at hl ⊢
  have hl : lv_has ls 2 [(0, .ref (ad 11 0)), (1, .int (iv x1))] := hl
  have h : Hs D ct ad L φ N0 s.heap σ s.heap [] := h
  unfold wp_X11_logAt at hw
  refine lv_iload_n X.1 X.2.1 dX11_logAt_0 rfl (lv_at hl 1 rfl) ?_
  refine j_iconst X dX11_logAt_1 ?_
  refine lv_aload_n X.1 X.2.1 dX11_logAt_2 rfl (lv_at hl 0 rfl) ?_
  refine r_get (ci := 11) X inw_11 h (hF.1 11 rfl).1 rfl rfl 4 (by decide) kw_462 rfl dX11_logAt_3 ?_
  refine j_iconst X dX11_logAt_6 ?_
  refine j_isub X dX11_logAt_7 ?_
  refine k_i h (r_S (As := [.int (iv x1), .int (iv 0), .int (iv ((σ 11 0 4) - 1))]) (rest := []) X h (c_X11_within l D ct ad L φ N0 σ x1 0 ((σ 11 0 4) - 1) _ hw) rfl rfl ⟨Nat.le_of_ble_eq_true rfl, Nat.le_of_ble_eq_true rfl⟩ kw_526 kw_527 kw_120 kw_528 pd_X11_within rfl hl.1 rfl (Nat.le_of_ble_eq_true rfl) ⟨Nat.le_of_ble_eq_true rfl, Nat.le_of_ble_eq_true rfl⟩ dX11_logAt_8) (fun r_2 σ_1 H locs hw h => ?_)
  obtain ⟨g_3, hwt, hwf⟩ := hw
  refine j_if_eq (tgt := 23) X g_3 dX11_logAt_11 (by decide) (fun c_8 => ?_) (fun c_8 => ?_)
  · have hw := hwt c_8
    refine lv_null X.1 X.2.1 dX11_logAt_23 ?_
    exact k_on X h hw dX11_logAt_24
  · have hw := hwf c_8
    refine lv_aload_n X.1 X.2.1 dX11_logAt_14 rfl (lv_at hl 0 rfl) ?_
    refine r_getR (ci := 11) X inw_11 h (hF.1 11 rfl).1 rfl rfl 3 (by decide) kw_461 rfl ((hF.1 11 rfl).2 3) dX11_logAt_15 ?_
    refine lv_iload_n X.1 X.2.1 dX11_logAt_18 rfl (lv_at hl 1 rfl) ?_
    obtain ⟨g_4, g_5, hwt, hwf⟩ := hw
    refine r_aaD (n := 300) (t := 3) X h (hF.1 77 rfl).1 rfl rfl (by decide) g_4 g_5 dX11_logAt_19 (fun c_6 => ?_) (fun c_6 => ?_)
    · have hw := hwt c_6
      refine lv_goto (tgt := 24) X.1 X.2.1 dX11_logAt_20 (by decide) ?_
      exact k_on X h hw dX11_logAt_24
    · have hw := hwf c_6 (h.2.2.2.2.2.1 _ c_6)
      refine lv_goto (tgt := 24) X.1 X.2.1 dX11_logAt_20 (by decide) ?_
      exact k_os X h hw dX11_logAt_24
end
section
variable {p : Program} {l : Launch} {e : Env} {s : State} {m : MethodId} {args : Array Value} {below : List Frame} {meth : Method} {c : Code} {D : va_G} {ct : Nat → ClassId} {ad : Nat → Nat → Nat} {L : List (Nat × Nat)} {φ : Nat → Nat → Nat → Bool} {N0 : Nat}
variable {Q : Int → St → Prop}
theorem pd_X11_log : yX11_log.cls ≠ "java/lang/invoke/MethodHandle" ∧ yX11_log.cls ≠ "java/lang/invoke/VarHandle" ∧ (parseMethodDescriptor yX11_log.desc).map (fun d => d.parameters.length) = some 2 := by decide +kernel
def wp_X11_log (σ : St) (x1 : Int) (x2 : Int) (Q : Int → St → Prop) : Prop := wp_X11_logAt σ x1 (fun o_6 σ_1 => match o_6 with | none => Q (-1) σ_1 | some j_2 => σ_1 50 4 j_2 ≠ 0 ∧ wp_X4_told σ_1 j_2 x2 (fun r_5 σ_4 => Q r_5 σ_4))
set_option maxRecDepth 100000 in
set_option maxHeartbeats 4000000 in
theorem c_X11_log (l : Launch) (D : va_G) (ct : Nat → ClassId) (ad : Nat → Nat → Nat) (L : List (Nat × Nat)) (φ : Nat → Nat → Nat → Bool) (N0 : Nat) (σ : St) (x1 : Int) (x2 : Int) (Q : Int → St → Prop) (hw : wp_X11_log σ x1 x2 Q) : Met l yX11_log (.code yX11_log cX11_log 4 (some .int) :: gw) ({ frames := 2, cells := 0, slots := 0, locals := 43 } : Room) (Pm D ct ad L φ N0 σ [.ref (ad 11 0), .int (iv x1), .int (iv x2)]) (Qi D ct ad L φ N0 Q) 0 0 (AA N0) := by
  refine m_of (by decide) (fun p e s m below meth c X hnm h => ?_)
  have hF := X.2.2.2.2.2.2.2.2.1
  have hl := lv_entry ([.ref (ad 11 0), .int (iv x1), .int (iv x2)]) (n := 4) (Nat.le_of_ble_eq_true rfl)
  rw [lg_entry_eq]
  generalize (lg_sl ([.ref (ad 11 0), .int (iv x1), .int (iv x2)]) ++ List.replicate (4 - (lg_sl ([.ref (ad 11 0), .int (iv x1), .int (iv x2)])).length) Slot.unset).toArray = ls at hl ⊢
  have hl : lv_has ls 4 [(0, .ref (ad 11 0)), (1, .int (iv x1)), (2, .int (iv x2))] := hl
  have h : Hs D ct ad L φ N0 s.heap σ s.heap [] := h
  unfold wp_X11_log at hw
  refine lv_aload_n X.1 X.2.1 dX11_log_0 rfl (lv_at hl 0 rfl) ?_
  refine lv_iload_n X.1 X.2.1 dX11_log_1 rfl (lv_at hl 1 rfl) ?_
  refine k_o h (r_V (C := RX11) (ci := 11) (As := [.int (iv x1)]) (rest := []) X h (c_X11_logAt l D ct ad L φ N0 σ x1 _ hw) rfl rfl ⟨Nat.le_of_ble_eq_true rfl, Nat.le_of_ble_eq_true rfl⟩ kw_794 kw_796 kw_12 kw_120 kw_797 ⟨rfl, pd_X11_logAt⟩ (hF.1 11 rfl).1 rfl rfl rfl hl.1 rfl (Nat.le_of_ble_eq_true rfl) ⟨Nat.le_of_ble_eq_true rfl, Nat.le_of_ble_eq_true rfl⟩ dX11_log_2) (fun o_6 σ_1 H locs hw h => ?_)
  cases o_6 with
  | none =>
    refine lv_astore_nN (lv' := [(3, .null), (0, .ref (ad 11 0)), (1, .int (iv x1)), (2, .int (iv x2))]) X.1 X.2.1 dX11_log_5 rfl hl (by decide) rfl (fun ls hl => ?_)
    refine lv_aload_nN X.1 X.2.1 dX11_log_6 rfl (lv_at hl 0 rfl) ?_
    refine lv_ifnonnullN X.1 X.2.1 dX11_log_7 ?_
    refine j_iconst X dX11_log_10 ?_
    refine lv_goto (tgt := 19) X.1 X.2.1 dX11_log_11 (by decide) ?_
    exact k_ir X rfl h hw dX11_log_19
  | some j_2 =>
    refine lv_astore_n (lv' := [(3, .ref (ad 4 j_2)), (0, .ref (ad 11 0)), (1, .int (iv x1)), (2, .int (iv x2))]) X.1 X.2.1 dX11_log_5 rfl hl (by decide) rfl (fun ls hl => ?_)
    refine lv_aload_n X.1 X.2.1 dX11_log_6 rfl (lv_at hl 0 rfl) ?_
    refine lv_ifnonnull (tgt := 14) X.1 X.2.1 dX11_log_7 (by decide) ?_
    refine lv_aload_n X.1 X.2.1 dX11_log_14 rfl (lv_at hl 0 rfl) ?_
    refine lv_iload_n X.1 X.2.1 dX11_log_15 rfl (lv_at hl 3 rfl) ?_
    obtain ⟨g_3, hw⟩ := hw
    refine k_i h (r_V (C := RX4) (ci := 4) (As := [.int (iv x2)]) (rest := []) X h (c_X4_told l D ct ad L φ N0 σ_1 j_2 x2 _ hw) rfl rfl ⟨Nat.le_of_ble_eq_true rfl, Nat.le_of_ble_eq_true rfl⟩ kw_798 kw_799 kw_800 kw_131 kw_801 ⟨rfl, pd_X4_told⟩ (h.2.2.1 j_2 g_3).1 rfl rfl rfl hl.1 rfl (Nat.le_of_ble_eq_true rfl) ⟨Nat.le_of_ble_eq_true rfl, Nat.le_of_ble_eq_true rfl⟩ dX11_log_16) (fun r_5 σ_4 H locs hw h => ?_)
    exact k_ir X rfl h hw dX11_log_19
end
section
variable {p : Program} {l : Launch} {e : Env} {s : State} {m : MethodId} {args : Array Value} {below : List Frame} {meth : Method} {c : Code} {D : va_G} {ct : Nat → ClassId} {ad : Nat → Nat → Nat} {L : List (Nat × Nat)} {φ : Nat → Nat → Nat → Bool} {N0 : Nat}
variable {Q : Int → St → Prop}
theorem pd_X11_iron : yX11_iron.cls ≠ "java/lang/invoke/MethodHandle" ∧ yX11_iron.cls ≠ "java/lang/invoke/VarHandle" ∧ (parseMethodDescriptor yX11_iron.desc).map (fun d => d.parameters.length) = some 1 := by decide +kernel
def wp_X11_iron (σ : St) (x1 : Int) (Q : Int → St → Prop) : Prop := wp_X11_within σ x1 0 500 (fun r_2 σ_1 => inR r_2 ∧ (r_2 = 0 → Q (-1) σ_1) ∧ (¬ r_2 = 0 → inR ((σ_1 11 0 7) + x1) ∧ (((σ_1 11 0 7) + x1) ≤ 5000 → ∀ σ_5 : St, σ_5 = st σ_1 11 0 7 ((σ_1 11 0 7) + x1) → (Q (σ_5 11 0 7) σ_5)) ∧ (¬ ((σ_1 11 0 7) + x1) ≤ 5000 → Q (-1) σ_1)))
set_option maxRecDepth 100000 in
set_option maxHeartbeats 4000000 in
theorem c_X11_iron (l : Launch) (D : va_G) (ct : Nat → ClassId) (ad : Nat → Nat → Nat) (L : List (Nat × Nat)) (φ : Nat → Nat → Nat → Bool) (N0 : Nat) (σ : St) (x1 : Int) (Q : Int → St → Prop) (hw : wp_X11_iron σ x1 Q) : Met l yX11_iron (.code yX11_iron cX11_iron 2 (some .int) :: gw) ({ frames := 1, cells := 0, slots := 0, locals := 22 } : Room) (Pm D ct ad L φ N0 σ [.ref (ad 11 0), .int (iv x1)]) (Qi D ct ad L φ N0 Q) 0 0 (AA N0) := by
  refine m_of (by decide) (fun p e s m below meth c X hnm h => ?_)
  have hF := X.2.2.2.2.2.2.2.2.1
  have hl := lv_entry ([.ref (ad 11 0), .int (iv x1)]) (n := 2) (Nat.le_of_ble_eq_true rfl)
  rw [lg_entry_eq]
  generalize (lg_sl ([.ref (ad 11 0), .int (iv x1)]) ++ List.replicate (2 - (lg_sl ([.ref (ad 11 0), .int (iv x1)])).length) Slot.unset).toArray = ls at hl ⊢
  have hl : lv_has ls 2 [(0, .ref (ad 11 0)), (1, .int (iv x1))] := hl
  have h : Hs D ct ad L φ N0 s.heap σ s.heap [] := h
  unfold wp_X11_iron at hw
  refine lv_iload_n X.1 X.2.1 dX11_iron_0 rfl (lv_at hl 1 rfl) ?_
  refine j_iconst X dX11_iron_1 ?_
  refine j_sipush X dX11_iron_2 (by decide) ?_
  refine k_i h (r_S (As := [.int (iv x1), .int (iv 0), .int (iv 500)]) (rest := []) X h (c_X11_within l D ct ad L φ N0 σ x1 0 500 _ hw) rfl rfl ⟨Nat.le_of_ble_eq_true rfl, Nat.le_of_ble_eq_true rfl⟩ kw_526 kw_527 kw_120 kw_528 pd_X11_within rfl hl.1 rfl (Nat.le_of_ble_eq_true rfl) ⟨Nat.le_of_ble_eq_true rfl, Nat.le_of_ble_eq_true rfl⟩ dX11_iron_5) (fun r_2 σ_1 H locs hw h => ?_)
  obtain ⟨g_3, hwt, hwf⟩ := hw
  refine j_if_eq (tgt := 23) X g_3 dX11_iron_8 (by decide) (fun c_7 => ?_) (fun c_7 => ?_)
  · have hw := hwt c_7
    refine j_iconst X dX11_iron_23 ?_
    exact k_ir X rfl h hw dX11_iron_24
  · have hw := hwf c_7
    refine lv_aload_n X.1 X.2.1 dX11_iron_11 rfl (lv_at hl 0 rfl) ?_
    refine r_get (ci := 11) X inw_11 h (hF.1 11 rfl).1 rfl rfl 7 (by decide) kw_465 rfl dX11_iron_12 ?_
    refine lv_iload_n X.1 X.2.1 dX11_iron_15 rfl (lv_at hl 1 rfl) ?_
    refine j_iadd X dX11_iron_16 ?_
    refine j_sipush X dX11_iron_17 (by decide) ?_
    obtain ⟨g_4, hwt, hwf⟩ := hw
    refine j_cmp_le (tgt := 25) X g_4 ⟨by decide, by decide⟩ dX11_iron_20 (by decide) (fun c_6 => ?_) (fun c_6 => ?_)
    · have hw := hwt c_6
      refine lv_aload_n X.1 X.2.1 dX11_iron_25 rfl (lv_at hl 0 rfl) ?_
      refine lv_dup X.1 X.2.1 dX11_iron_26 rfl ?_
      refine r_get (ci := 11) X inw_11 h (hF.1 11 rfl).1 rfl rfl 7 (by decide) kw_465 rfl dX11_iron_27 ?_
      refine lv_iload_n X.1 X.2.1 dX11_iron_30 rfl (lv_at hl 1 rfl) ?_
      refine j_iadd X dX11_iron_31 ?_
      refine r_put (ci := 11) X inw_11 tyX11 tyX11_ok nmX11 h (hF.1 11 rfl).1 rfl rfl 7 (by decide) kw_465 rfl rfl rfl (Nat.le_of_ble_eq_true rfl) rfl rfl dX11_iron_32 (fun H locs h => ?_)
      obtain ⟨σ_5, eσ_5⟩ : ∃ z : St, z = st σ_1 11 0 7 ((σ_1 11 0 7) + x1) := ⟨_, rfl⟩
      rw [← eσ_5] at h
      have hw := hw σ_5 eσ_5
      refine lv_aload_n X.1 X.2.1 dX11_iron_35 rfl (lv_at hl 0 rfl) ?_
      refine r_get (ci := 11) X inw_11 h (hF.1 11 rfl).1 rfl rfl 7 (by decide) kw_465 rfl dX11_iron_36 ?_
      exact k_ir X rfl h hw dX11_iron_39
    · have hw := hwf c_6
      refine j_iconst X dX11_iron_23 ?_
      exact k_ir X rfl h hw dX11_iron_24
end
section
variable {p : Program} {l : Launch} {e : Env} {s : State} {m : MethodId} {args : Array Value} {below : List Frame} {meth : Method} {c : Code} {D : va_G} {ct : Nat → ClassId} {ad : Nat → Nat → Nat} {L : List (Nat × Nat)} {φ : Nat → Nat → Nat → Bool} {N0 : Nat}
variable {Q : Option Nat → St → Prop}
theorem pd_X11_wayAt : yX11_wayAt.cls ≠ "java/lang/invoke/MethodHandle" ∧ yX11_wayAt.cls ≠ "java/lang/invoke/VarHandle" ∧ (parseMethodDescriptor yX11_wayAt.desc).map (fun d => d.parameters.length) = some 1 := by decide +kernel
def wp_X11_wayAt (σ : St) (x1 : Int) (Q : Option Nat → St → Prop) : Prop := wp_X11_within σ x1 0 ((σ 11 0 6) - 1) (fun r_2 σ_1 => inR r_2 ∧ (r_2 = 0 → Q none σ_1) ∧ (¬ r_2 = 0 → 0 ≤ x1 ∧ x1 < 40 ∧ (σ_1 78 0 (Int.toNat x1) = 0 → Q none σ_1) ∧ (σ_1 78 0 (Int.toNat x1) ≠ 0 → σ_1 50 10 (Int.toNat x1) ≠ 0 → Q (some (Int.toNat x1)) σ_1)))
set_option maxRecDepth 100000 in
set_option maxHeartbeats 4000000 in
theorem c_X11_wayAt (l : Launch) (D : va_G) (ct : Nat → ClassId) (ad : Nat → Nat → Nat) (L : List (Nat × Nat)) (φ : Nat → Nat → Nat → Bool) (N0 : Nat) (σ : St) (x1 : Int) (Q : Option Nat → St → Prop) (hw : wp_X11_wayAt σ x1 Q) : Met l yX11_wayAt (.code yX11_wayAt cX11_wayAt 2 (some (.object "TimberValley$Way")) :: gw) ({ frames := 1, cells := 0, slots := 0, locals := 22 } : Room) (Pm D ct ad L φ N0 σ [.ref (ad 11 0), .int (iv x1)]) (Qo D ct ad L φ N0 10 Q) 0 0 (AA N0) := by
  refine m_of (by decide) (fun p e s m below meth c X hnm h => ?_)
  have hF := X.2.2.2.2.2.2.2.2.1
  have hl := lv_entry ([.ref (ad 11 0), .int (iv x1)]) (n := 2) (Nat.le_of_ble_eq_true rfl)
  rw [lg_entry_eq]
  generalize (lg_sl ([.ref (ad 11 0), .int (iv x1)]) ++ List.replicate (2 - (lg_sl ([.ref (ad 11 0), .int (iv x1)])).length) Slot.unset).toArray = ls at hl ⊢
  have hl : lv_has ls 2 [(0, .ref (ad 11 0)), (1, .int (iv x1))] := hl
  have h : Hs D ct ad L φ N0 s.heap σ s.heap [] := h
  unfold wp_X11_wayAt at hw
  refine lv_iload_n X.1 X.2.1 dX11_wayAt_0 rfl (lv_at hl 1 rfl) ?_
  refine j_iconst X dX11_wayAt_1 ?_
  refine lv_aload_n X.1 X.2.1 dX11_wayAt_2 rfl (lv_at hl 0 rfl) ?_
  refine r_get (ci := 11) X inw_11 h (hF.1 11 rfl).1 rfl rfl 6 (by decide) kw_464 rfl dX11_wayAt_3 ?_
  refine j_iconst X dX11_wayAt_6 ?_
  refine j_isub X dX11_wayAt_7 ?_
  refine k_i h (r_S (As := [.int (iv x1), .int (iv 0), .int (iv ((σ 11 0 6) - 1))]) (rest := []) X h (c_X11_within l D ct ad L φ N0 σ x1 0 ((σ 11 0 6) - 1) _ hw) rfl rfl ⟨Nat.le_of_ble_eq_true rfl, Nat.le_of_ble_eq_true rfl⟩ kw_526 kw_527 kw_120 kw_528 pd_X11_within rfl hl.1 rfl (Nat.le_of_ble_eq_true rfl) ⟨Nat.le_of_ble_eq_true rfl, Nat.le_of_ble_eq_true rfl⟩ dX11_wayAt_8) (fun r_2 σ_1 H locs hw h => ?_)
  obtain ⟨g_3, hwt, hwf⟩ := hw
  refine j_if_eq (tgt := 23) X g_3 dX11_wayAt_11 (by decide) (fun c_8 => ?_) (fun c_8 => ?_)
  · have hw := hwt c_8
    refine lv_null X.1 X.2.1 dX11_wayAt_23 ?_
    exact k_on X h hw dX11_wayAt_24
  · have hw := hwf c_8
    refine lv_aload_n X.1 X.2.1 dX11_wayAt_14 rfl (lv_at hl 0 rfl) ?_
    refine r_getR (ci := 11) X inw_11 h (hF.1 11 rfl).1 rfl rfl 5 (by decide) kw_463 rfl ((hF.1 11 rfl).2 5) dX11_wayAt_15 ?_
    refine lv_iload_n X.1 X.2.1 dX11_wayAt_18 rfl (lv_at hl 1 rfl) ?_
    obtain ⟨g_4, g_5, hwt, hwf⟩ := hw
    refine r_aaD (n := 40) (t := 4) X h (hF.1 78 rfl).1 rfl rfl (by decide) g_4 g_5 dX11_wayAt_19 (fun c_6 => ?_) (fun c_6 => ?_)
    · have hw := hwt c_6
      refine lv_goto (tgt := 24) X.1 X.2.1 dX11_wayAt_20 (by decide) ?_
      exact k_on X h hw dX11_wayAt_24
    · have hw := hwf c_6 (h.2.2.2.2.2.2.1 _ c_6)
      refine lv_goto (tgt := 24) X.1 X.2.1 dX11_wayAt_20 (by decide) ?_
      exact k_os X h hw dX11_wayAt_24
end
section
variable {p : Program} {l : Launch} {e : Env} {s : State} {m : MethodId} {args : Array Value} {below : List Frame} {meth : Method} {c : Code} {D : va_G} {ct : Nat → ClassId} {ad : Nat → Nat → Nat} {L : List (Nat × Nat)} {φ : Nat → Nat → Nat → Bool} {N0 : Nat}
variable {Q : Int → St → Prop}
def wp_X11_lay_59 (Q : Int → St → Prop) (σ : St) (x2 : Int) (j3 : Nat) (y0 : Int) (y1 : Int) : Prop := ∀ σ_1 : St, σ_1 = st σ 11 0 7 (y1 + y0) → (σ_1 50 10 j3 ≠ 0 ∧ (x2 = 0 ∨ x2 = 1) ∧ ∀ σ_4 : St, σ_4 = st σ_1 10 j3 3 x2 → (Q 1 σ_4))
set_option maxRecDepth 100000 in
set_option maxHeartbeats 4000000 in
theorem lb_X11_lay_59 (X : Cx p s m meth c args cX11_lay 4 (some .boolean) RX11 D ct L φ N0) (σ : St) (x2 : Int) (j3 : Nat) (y0 : Int) (y1 : Int) (H : Heap) (locs : List Loc) (ls : Array Slot) (hw : wp_X11_lay_59 Q σ x2 j3 y0 y1) (h : Hs D ct ad L φ N0 s.heap σ H locs) (hl : lv_has ls 4 [(2, .int (iv x2)), (3, .ref (ad 10 j3))]) : W p l e ({ frames := 2, cells := 0, slots := 0, locals := 43 } : Room) s m args below meth c H locs 0 0 (MQ below (Qi D ct ad L φ N0 Q) args s 0 0 (AA N0)) (F0 m 59 ls [.int (iv y0), .int (iv y1), .ref (ad 11 0)]) := by
  have hF := X.2.2.2.2.2.2.2.2.1
  unfold wp_X11_lay_59 at hw
  refine j_iadd X dX11_lay_59 ?_
  refine r_put (ci := 11) X inw_11 tyX11 tyX11_ok nmX11 h (hF.1 11 rfl).1 rfl rfl 7 (by decide) kw_465 rfl rfl rfl (Nat.le_of_ble_eq_true rfl) rfl rfl dX11_lay_60 (fun H locs h => ?_)
  obtain ⟨σ_1, eσ_1⟩ : ∃ z : St, z = st σ 11 0 7 (y1 + y0) := ⟨_, rfl⟩
  rw [← eσ_1] at h
  have hw := hw σ_1 eσ_1
  refine lv_aload_n X.1 X.2.1 dX11_lay_63 rfl (lv_at hl 1 rfl) ?_
  refine lv_iload_n X.1 X.2.1 dX11_lay_64 rfl (lv_at hl 0 rfl) ?_
  obtain ⟨g_2, g_3, hw⟩ := hw
  refine r_putN (ci := 10) X inw_10 tyX10 tyX10_ok nmX10 h (h.2.2.2.1 j3 g_2) rfl rfl 3 (by decide) kw_825 rfl (nb_n g_3) (nb_f g_3) (Nat.le_of_ble_eq_true rfl) rfl rfl dX11_lay_65 (fun H locs h => ?_)
  obtain ⟨σ_4, eσ_4⟩ : ∃ z : St, z = st σ_1 10 j3 3 x2 := ⟨_, rfl⟩
  rw [← eσ_4] at h
  have hw := hw σ_4 eσ_4
  refine j_iconst X dX11_lay_68 ?_
  exact k_ir X rfl h hw dX11_lay_69
def wp_X11_lay_43 (Q : Int → St → Prop) (σ : St) (x2 : Int) (j3 : Nat) : Prop := inR x2 ∧ (x2 = 0 → wp_X11_lay_59 Q σ x2 j3 10 (σ 11 0 7)) ∧ (¬ x2 = 0 → wp_X11_lay_59 Q σ x2 j3 (-10) (σ 11 0 7))
set_option maxRecDepth 100000 in
set_option maxHeartbeats 4000000 in
theorem lb_X11_lay_43 (X : Cx p s m meth c args cX11_lay 4 (some .boolean) RX11 D ct L φ N0) (σ : St) (x2 : Int) (j3 : Nat) (H : Heap) (locs : List Loc) (ls : Array Slot) (hw : wp_X11_lay_43 Q σ x2 j3) (h : Hs D ct ad L φ N0 s.heap σ H locs) (hl : lv_has ls 4 [(0, .ref (ad 11 0)), (2, .int (iv x2)), (3, .ref (ad 10 j3))]) : W p l e ({ frames := 2, cells := 0, slots := 0, locals := 43 } : Room) s m args below meth c H locs 0 0 (MQ below (Qi D ct ad L φ N0 Q) args s 0 0 (AA N0)) (F0 m 43 ls []) := by
  have hF := X.2.2.2.2.2.2.2.2.1
  unfold wp_X11_lay_43 at hw
  refine lv_aload_n X.1 X.2.1 dX11_lay_43 rfl (lv_at hl 0 rfl) ?_
  refine lv_dup X.1 X.2.1 dX11_lay_44 rfl ?_
  refine r_get (ci := 11) X inw_11 h (hF.1 11 rfl).1 rfl rfl 7 (by decide) kw_465 rfl dX11_lay_45 ?_
  refine lv_iload_n X.1 X.2.1 dX11_lay_48 rfl (lv_at hl 1 rfl) ?_
  obtain ⟨g_5, hwt, hwf⟩ := hw
  refine j_if_eq (tgt := 57) X g_5 dX11_lay_49 (by decide) (fun c_6 => ?_) (fun c_6 => ?_)
  · have hw := hwt c_6
    refine j_bipush X dX11_lay_57 (by decide) ?_
    exact lb_X11_lay_59 X σ x2 j3 10 (σ 11 0 7) _ _ _ hw h (lv_sub hl [1, 2] rfl)
  · have hw := hwf c_6
    refine j_bipush X dX11_lay_52 (by decide) ?_
    refine lv_goto (tgt := 59) X.1 X.2.1 dX11_lay_54 (by decide) ?_
    exact lb_X11_lay_59 X σ x2 j3 (-10) (σ 11 0 7) _ _ _ hw h (lv_sub hl [1, 2] rfl)
theorem pd_X11_lay : yX11_lay.cls ≠ "java/lang/invoke/MethodHandle" ∧ yX11_lay.cls ≠ "java/lang/invoke/VarHandle" ∧ (parseMethodDescriptor yX11_lay.desc).map (fun d => d.parameters.length) = some 2 := by decide +kernel
def wp_X11_lay (σ : St) (x1 : Int) (x2 : Int) (Q : Int → St → Prop) : Prop := wp_X11_wayAt σ x1 (fun o_20 σ_7 => match o_20 with | none => Q 0 σ_7 | some j_8 => σ_7 50 10 j_8 ≠ 0 ∧ inR (σ_7 10 j_8 0) ∧ (¬ (σ_7 10 j_8 0) = 1 → Q 0 σ_7) ∧ ((σ_7 10 j_8 0) = 1 → σ_7 50 10 j_8 ≠ 0 ∧ inR (σ_7 10 j_8 3) ∧ inR x2 ∧ (¬ (σ_7 10 j_8 3) = x2 → inR x2 ∧ (x2 = 0 → wp_X11_lay_43 Q σ_7 x2 j_8) ∧ (¬ x2 = 0 → inR (σ_7 11 0 7) ∧ (10 ≤ (σ_7 11 0 7) → wp_X11_lay_43 Q σ_7 x2 j_8) ∧ (¬ 10 ≤ (σ_7 11 0 7) → Q 0 σ_7))) ∧ ((σ_7 10 j_8 3) = x2 → Q 0 σ_7)))
set_option maxRecDepth 100000 in
set_option maxHeartbeats 4000000 in
theorem c_X11_lay (l : Launch) (D : va_G) (ct : Nat → ClassId) (ad : Nat → Nat → Nat) (L : List (Nat × Nat)) (φ : Nat → Nat → Nat → Bool) (N0 : Nat) (σ : St) (x1 : Int) (x2 : Int) (Q : Int → St → Prop) (hw : wp_X11_lay σ x1 x2 Q) : Met l yX11_lay (.code yX11_lay cX11_lay 4 (some .boolean) :: gw) ({ frames := 2, cells := 0, slots := 0, locals := 43 } : Room) (Pm D ct ad L φ N0 σ [.ref (ad 11 0), .int (iv x1), .int (iv x2)]) (Qi D ct ad L φ N0 Q) 0 0 (AA N0) := by
  refine m_of (by decide) (fun p e s m below meth c X hnm h => ?_)
  have hF := X.2.2.2.2.2.2.2.2.1
  have hl := lv_entry ([.ref (ad 11 0), .int (iv x1), .int (iv x2)]) (n := 4) (Nat.le_of_ble_eq_true rfl)
  rw [lg_entry_eq]
  generalize (lg_sl ([.ref (ad 11 0), .int (iv x1), .int (iv x2)]) ++ List.replicate (4 - (lg_sl ([.ref (ad 11 0), .int (iv x1), .int (iv x2)])).length) Slot.unset).toArray = ls at hl ⊢
  have hl : lv_has ls 4 [(0, .ref (ad 11 0)), (1, .int (iv x1)), (2, .int (iv x2))] := hl
  have h : Hs D ct ad L φ N0 s.heap σ s.heap [] := h
  unfold wp_X11_lay at hw
  refine lv_aload_n X.1 X.2.1 dX11_lay_0 rfl (lv_at hl 0 rfl) ?_
  refine lv_iload_n X.1 X.2.1 dX11_lay_1 rfl (lv_at hl 1 rfl) ?_
  refine k_o h (r_V (C := RX11) (ci := 11) (As := [.int (iv x1)]) (rest := []) X h (c_X11_wayAt l D ct ad L φ N0 σ x1 _ hw) rfl rfl ⟨Nat.le_of_ble_eq_true rfl, Nat.le_of_ble_eq_true rfl⟩ kw_847 kw_849 kw_13 kw_120 kw_850 ⟨rfl, pd_X11_wayAt⟩ (hF.1 11 rfl).1 rfl rfl rfl hl.1 rfl (Nat.le_of_ble_eq_true rfl) ⟨Nat.le_of_ble_eq_true rfl, Nat.le_of_ble_eq_true rfl⟩ dX11_lay_2) (fun o_20 σ_7 H locs hw h => ?_)
  cases o_20 with
  | none =>
    refine lv_astore_nN (lv' := [(3, .null), (0, .ref (ad 11 0)), (1, .int (iv x1)), (2, .int (iv x2))]) X.1 X.2.1 dX11_lay_5 rfl hl (by decide) rfl (fun ls hl => ?_)
    refine lv_aload_nN X.1 X.2.1 dX11_lay_6 rfl (lv_at hl 0 rfl) ?_
    refine lv_ifnullN (tgt := 26) X.1 X.2.1 dX11_lay_7 (by decide) ?_
    refine j_iconst X dX11_lay_26 ?_
    exact k_ir X rfl h hw dX11_lay_27
  | some j_8 =>
    refine lv_astore_n (lv' := [(3, .ref (ad 10 j_8)), (0, .ref (ad 11 0)), (1, .int (iv x1)), (2, .int (iv x2))]) X.1 X.2.1 dX11_lay_5 rfl hl (by decide) rfl (fun ls hl => ?_)
    refine lv_aload_n X.1 X.2.1 dX11_lay_6 rfl (lv_at hl 0 rfl) ?_
    refine lv_ifnull X.1 X.2.1 dX11_lay_7 ?_
    refine lv_aload_n X.1 X.2.1 dX11_lay_10 rfl (lv_at hl 0 rfl) ?_
    obtain ⟨g_9, hw⟩ := hw
    refine r_getN (ci := 10) X inw_10 h (h.2.2.2.1 j_8 g_9) rfl rfl 0 (by decide) kw_819 rfl dX11_lay_11 ?_
    refine j_iconst X dX11_lay_14 ?_
    obtain ⟨g_10, hwt, hwf⟩ := hw
    refine j_cmp_ne (tgt := 26) X g_10 ⟨by decide, by decide⟩ dX11_lay_15 (by decide) (fun c_19 => ?_) (fun c_19 => ?_)
    · have hw := hwt c_19
      refine j_iconst X dX11_lay_26 ?_
      exact k_ir X rfl h hw dX11_lay_27
    · have hw := hwf c_19
      refine lv_aload_n X.1 X.2.1 dX11_lay_18 rfl (lv_at hl 0 rfl) ?_
      obtain ⟨g_11, hw⟩ := hw
      refine r_getN (ci := 10) X inw_10 h (h.2.2.2.1 j_8 g_11) rfl rfl 3 (by decide) kw_825 rfl dX11_lay_19 ?_
      refine lv_iload_n X.1 X.2.1 dX11_lay_22 rfl (lv_at hl 3 rfl) ?_
      obtain ⟨g_12, g_13, hwt, hwf⟩ := hw
      refine j_cmp_ne (tgt := 28) X g_12 g_13 dX11_lay_23 (by decide) (fun c_18 => ?_) (fun c_18 => ?_)
      · have hw := hwt c_18
        refine lv_iload_n X.1 X.2.1 dX11_lay_28 rfl (lv_at hl 3 rfl) ?_
        obtain ⟨g_14, hwt, hwf⟩ := hw
        refine j_if_eq (tgt := 43) X g_14 dX11_lay_29 (by decide) (fun c_17 => ?_) (fun c_17 => ?_)
        · have hw := hwt c_17
          exact lb_X11_lay_43 X σ_7 x2 j_8 _ _ _ hw h (lv_sub hl [1, 3, 0] rfl)
        · have hw := hwf c_17
          refine lv_aload_n X.1 X.2.1 dX11_lay_32 rfl (lv_at hl 1 rfl) ?_
          refine r_get (ci := 11) X inw_11 h (hF.1 11 rfl).1 rfl rfl 7 (by decide) kw_465 rfl dX11_lay_33 ?_
          refine j_bipush X dX11_lay_36 (by decide) ?_
          obtain ⟨g_15, hwt, hwf⟩ := hw
          refine j_cmp_ge (tgt := 43) X g_15 ⟨by decide, by decide⟩ dX11_lay_38 (by decide) (fun c_16 => ?_) (fun c_16 => ?_)
          · have hw := hwt c_16
            exact lb_X11_lay_43 X σ_7 x2 j_8 _ _ _ hw h (lv_sub hl [1, 3, 0] rfl)
          · have hw := hwf c_16
            refine j_iconst X dX11_lay_41 ?_
            exact k_ir X rfl h hw dX11_lay_42
      · have hw := hwf c_18
        refine j_iconst X dX11_lay_26 ?_
        exact k_ir X rfl h hw dX11_lay_27
end
section
variable {p : Program} {l : Launch} {e : Env} {s : State} {m : MethodId} {args : Array Value} {below : List Frame} {meth : Method} {c : Code} {D : va_G} {ct : Nat → ClassId} {ad : Nat → Nat → Nat} {L : List (Nat × Nat)} {φ : Nat → Nat → Nat → Bool} {N0 : Nat}
variable {Q : Int → St → Prop}
def wp_X11_ironLaid_37 (K4 : St → Int → Int → Prop) (Q : Int → St → Prop) (σ : St) (x2 : Int) (y0 : Int) (y1 : Int) : Prop := ∀ v_1 : Int, v_1 = (y1 + y0) → (K4 σ v_1 (x2 + 1))
set_option maxRecDepth 100000 in
set_option maxHeartbeats 4000000 in
theorem lb_X11_ironLaid_37 (X : Cx p s m meth c args cX11_ironLaid 4 (some .int) RX11 D ct L φ N0) {K4 : St → Int → Int → Prop} (hK4 : ∀ (σ : St) (x1 : Int) (x2 : Int) (H : Heap) (locs : List Loc) (ls : Array Slot), K4 σ x1 x2 → Hs D ct ad L φ N0 s.heap σ H locs → lv_has ls 4 [(0, .ref (ad 11 0)), (1, .int (iv x1)), (2, .int (iv x2))] → W p l e ({ frames := 0, cells := 0, slots := 0, locals := 0 } : Room) s m args below meth c H locs 0 0 (MQ below (Qi D ct ad L φ N0 Q) args s 0 0 (AA N0)) (F0 m 4 ls [])) (σ : St) (x2 : Int) (y0 : Int) (y1 : Int) (H : Heap) (locs : List Loc) (ls : Array Slot) (hw : wp_X11_ironLaid_37 K4 Q σ x2 y0 y1) (h : Hs D ct ad L φ N0 s.heap σ H locs) (hl : lv_has ls 4 [(0, .ref (ad 11 0)), (2, .int (iv x2))]) : W p l e ({ frames := 0, cells := 0, slots := 0, locals := 0 } : Room) s m args below meth c H locs 0 0 (MQ below (Qi D ct ad L φ N0 Q) args s 0 0 (AA N0)) (F0 m 37 ls [.int (iv y0), .int (iv y1)]) := by
  have hF := X.2.2.2.2.2.2.2.2.1
  unfold wp_X11_ironLaid_37 at hw
  refine j_iadd X dX11_ironLaid_37 ?_
  refine j_bind (fun v_1 ev_1 => ?_)
  have hw := hw v_1 ev_1
  refine lv_istore_n (lv' := [(1, .int (iv v_1)), (0, .ref (ad 11 0)), (2, .int (iv x2))]) X.1 X.2.1 dX11_ironLaid_38 rfl hl (by decide) rfl (fun ls hl => ?_)
  refine j_iinc (kk9 := 2) (lv' := [(2, .int (iv (x2 + 1))), (1, .int (iv v_1)), (0, .ref (ad 11 0))]) X dX11_ironLaid_39 hl rfl (by decide) rfl (fun ls hl => ?_)
  refine lv_goto (tgt := 4) X.1 X.2.1 dX11_ironLaid_42 (by decide) ?_
  exact hK4 σ v_1 (x2 + 1) _ _ _ hw h (lv_sub hl [2, 1, 0] rfl)
def wp_X11_ironLaid_36 (K4 : St → Int → Int → Prop) (Q : Int → St → Prop) (σ : St) (x2 : Int) (y0 : Int) : Prop := wp_X11_ironLaid_37 K4 Q σ x2 0 y0
set_option maxRecDepth 100000 in
set_option maxHeartbeats 4000000 in
theorem lb_X11_ironLaid_36 (X : Cx p s m meth c args cX11_ironLaid 4 (some .int) RX11 D ct L φ N0) {K4 : St → Int → Int → Prop} (hK4 : ∀ (σ : St) (x1 : Int) (x2 : Int) (H : Heap) (locs : List Loc) (ls : Array Slot), K4 σ x1 x2 → Hs D ct ad L φ N0 s.heap σ H locs → lv_has ls 4 [(0, .ref (ad 11 0)), (1, .int (iv x1)), (2, .int (iv x2))] → W p l e ({ frames := 0, cells := 0, slots := 0, locals := 0 } : Room) s m args below meth c H locs 0 0 (MQ below (Qi D ct ad L φ N0 Q) args s 0 0 (AA N0)) (F0 m 4 ls [])) (σ : St) (x2 : Int) (y0 : Int) (H : Heap) (locs : List Loc) (ls : Array Slot) (hw : wp_X11_ironLaid_36 K4 Q σ x2 y0) (h : Hs D ct ad L φ N0 s.heap σ H locs) (hl : lv_has ls 4 [(0, .ref (ad 11 0)), (2, .int (iv x2))]) : W p l e ({ frames := 0, cells := 0, slots := 0, locals := 0 } : Room) s m args below meth c H locs 0 0 (MQ below (Qi D ct ad L φ N0 Q) args s 0 0 (AA N0)) (F0 m 36 ls [.int (iv y0)]) := by
  have hF := X.2.2.2.2.2.2.2.2.1
  unfold wp_X11_ironLaid_36 at hw
  refine j_iconst X dX11_ironLaid_36 ?_
  exact lb_X11_ironLaid_37 X hK4 σ x2 0 y0 _ _ _ hw h (lv_sub hl [0, 1] rfl)
def wp_X11_ironLaid_4 (Q : Int → St → Prop) : Nat → St → Int → Int → Prop
  | 0, _, _, _ => False
  | n + 1, σ, x1, x2 => inR x2 ∧ inR (σ 11 0 6) ∧ ((σ 11 0 6) ≤ x2 → Q x1 σ) ∧ (¬ (σ 11 0 6) ≤ x2 → 0 ≤ x2 ∧ x2 < 40 ∧ (σ 78 0 (Int.toNat x2) = 0 → wp_X11_ironLaid_36 (fun σ x1 x2 => wp_X11_ironLaid_4 Q n σ x1 x2) Q σ x2 x1) ∧ (σ 78 0 (Int.toNat x2) ≠ 0 → σ 50 10 (Int.toNat x2) ≠ 0 → σ 50 10 (Int.toNat x2) ≠ 0 ∧ inR (σ 10 (Int.toNat x2) 3) ∧ ((σ 10 (Int.toNat x2) 3) = 0 → wp_X11_ironLaid_36 (fun σ x1 x2 => wp_X11_ironLaid_4 Q n σ x1 x2) Q σ x2 x1) ∧ (¬ (σ 10 (Int.toNat x2) 3) = 0 → wp_X11_ironLaid_37 (fun σ x1 x2 => wp_X11_ironLaid_4 Q n σ x1 x2) Q σ x2 10 x1)))
set_option maxRecDepth 100000 in
set_option maxHeartbeats 4000000 in
theorem lb_X11_ironLaid_4 (X : Cx p s m meth c args cX11_ironLaid 4 (some .int) RX11 D ct L φ N0) : ∀ (n : Nat) (σ : St) (x1 : Int) (x2 : Int) (H : Heap) (locs : List Loc) (ls : Array Slot), wp_X11_ironLaid_4 Q n σ x1 x2 → Hs D ct ad L φ N0 s.heap σ H locs → lv_has ls 4 [(0, .ref (ad 11 0)), (1, .int (iv x1)), (2, .int (iv x2))] → W p l e ({ frames := 0, cells := 0, slots := 0, locals := 0 } : Room) s m args below meth c H locs 0 0 (MQ below (Qi D ct ad L φ N0 Q) args s 0 0 (AA N0)) (F0 m 4 ls []) := by
  have hF := X.2.2.2.2.2.2.2.2.1
  intro n
  induction n with
  | zero => intro σ x1 x2 H locs ls hw; exact hw.elim
  | succ n ih =>
    intro σ x1 x2 H locs ls hw h hl
    unfold wp_X11_ironLaid_4 at hw
    refine lv_iload_n X.1 X.2.1 dX11_ironLaid_4 rfl (lv_at hl 2 rfl) ?_
    refine lv_aload_n X.1 X.2.1 dX11_ironLaid_5 rfl (lv_at hl 0 rfl) ?_
    refine r_get (ci := 11) X inw_11 h (hF.1 11 rfl).1 rfl rfl 6 (by decide) kw_464 rfl dX11_ironLaid_6 ?_
    obtain ⟨g_2, g_3, hwt, hwf⟩ := hw
    refine j_cmp_ge (tgt := 45) X g_2 g_3 dX11_ironLaid_9 (by decide) (fun c_11 => ?_) (fun c_11 => ?_)
    · have hw := hwt c_11
      refine lv_iload_n X.1 X.2.1 dX11_ironLaid_45 rfl (lv_at hl 1 rfl) ?_
      exact k_ir X rfl h hw dX11_ironLaid_46
    · have hw := hwf c_11
      refine lv_aload_n X.1 X.2.1 dX11_ironLaid_12 rfl (lv_at hl 0 rfl) ?_
      refine r_getR (ci := 11) X inw_11 h (hF.1 11 rfl).1 rfl rfl 5 (by decide) kw_463 rfl ((hF.1 11 rfl).2 5) dX11_ironLaid_13 ?_
      refine lv_iload_n X.1 X.2.1 dX11_ironLaid_16 rfl (lv_at hl 2 rfl) ?_
      obtain ⟨g_4, g_5, hwt, hwf⟩ := hw
      refine r_aaD (n := 40) (t := 4) X h (hF.1 78 rfl).1 rfl rfl (by decide) g_4 g_5 dX11_ironLaid_17 (fun c_9 => ?_) (fun c_9 => ?_)
      · have hw := hwt c_9
        refine lv_astore_nN (lv' := [(3, .null), (0, .ref (ad 11 0)), (1, .int (iv x1)), (2, .int (iv x2))]) X.1 X.2.1 dX11_ironLaid_18 rfl hl (by decide) rfl (fun ls hl => ?_)
        refine lv_iload_n X.1 X.2.1 dX11_ironLaid_19 rfl (lv_at hl 2 rfl) ?_
        refine lv_aload_nN X.1 X.2.1 dX11_ironLaid_20 rfl (lv_at hl 0 rfl) ?_
        refine lv_ifnullN (tgt := 36) X.1 X.2.1 dX11_ironLaid_21 (by decide) ?_
        exact lb_X11_ironLaid_36 X ih σ x2 x1 _ _ _ hw h (lv_sub hl [1, 3] rfl)
      · have hw := hwf c_9 (h.2.2.2.2.2.2.1 _ c_9)
        refine lv_astore_n (lv' := [(3, .ref (ad 10 (Int.toNat x2))), (0, .ref (ad 11 0)), (1, .int (iv x1)), (2, .int (iv x2))]) X.1 X.2.1 dX11_ironLaid_18 rfl hl (by decide) rfl (fun ls hl => ?_)
        refine lv_iload_n X.1 X.2.1 dX11_ironLaid_19 rfl (lv_at hl 2 rfl) ?_
        refine lv_aload_n X.1 X.2.1 dX11_ironLaid_20 rfl (lv_at hl 0 rfl) ?_
        refine lv_ifnull X.1 X.2.1 dX11_ironLaid_21 ?_
        refine lv_aload_n X.1 X.2.1 dX11_ironLaid_24 rfl (lv_at hl 0 rfl) ?_
        obtain ⟨g_6, hw⟩ := hw
        refine r_getN (ci := 10) X inw_10 h (h.2.2.2.1 (Int.toNat x2) g_6) rfl rfl 3 (by decide) kw_825 rfl dX11_ironLaid_25 ?_
        obtain ⟨g_7, hwt, hwf⟩ := hw
        refine j_if_eq (tgt := 36) X g_7 dX11_ironLaid_28 (by decide) (fun c_8 => ?_) (fun c_8 => ?_)
        · have hw := hwt c_8
          exact lb_X11_ironLaid_36 X ih σ x2 x1 _ _ _ hw h (lv_sub hl [1, 3] rfl)
        · have hw := hwf c_8
          refine j_bipush X dX11_ironLaid_31 (by decide) ?_
          refine lv_goto (tgt := 37) X.1 X.2.1 dX11_ironLaid_33 (by decide) ?_
          exact lb_X11_ironLaid_37 X ih σ x2 10 x1 _ _ _ hw h (lv_sub hl [1, 3] rfl)
theorem pd_X11_ironLaid : yX11_ironLaid.cls ≠ "java/lang/invoke/MethodHandle" ∧ yX11_ironLaid.cls ≠ "java/lang/invoke/VarHandle" ∧ (parseMethodDescriptor yX11_ironLaid.desc).map (fun d => d.parameters.length) = some 0 := by decide +kernel
def wp_X11_ironLaid (σ : St) (Q : Int → St → Prop) : Prop := ∃ n4, wp_X11_ironLaid_4 Q n4 σ 0 0
set_option maxRecDepth 100000 in
set_option maxHeartbeats 4000000 in
theorem c_X11_ironLaid (l : Launch) (D : va_G) (ct : Nat → ClassId) (ad : Nat → Nat → Nat) (L : List (Nat × Nat)) (φ : Nat → Nat → Nat → Bool) (N0 : Nat) (σ : St) (Q : Int → St → Prop) (hw : wp_X11_ironLaid σ Q) : Met l yX11_ironLaid (.code yX11_ironLaid cX11_ironLaid 4 (some .int) :: gw) ({ frames := 0, cells := 0, slots := 0, locals := 0 } : Room) (Pm D ct ad L φ N0 σ [.ref (ad 11 0)]) (Qi D ct ad L φ N0 Q) 0 0 (AA N0) := by
  refine m_of (by decide) (fun p e s m below meth c X hnm h => ?_)
  have hF := X.2.2.2.2.2.2.2.2.1
  have hl := lv_entry ([.ref (ad 11 0)]) (n := 4) (Nat.le_of_ble_eq_true rfl)
  rw [lg_entry_eq]
  generalize (lg_sl ([.ref (ad 11 0)]) ++ List.replicate (4 - (lg_sl ([.ref (ad 11 0)])).length) Slot.unset).toArray = ls at hl ⊢
  have hl : lv_has ls 4 [(0, .ref (ad 11 0))] := hl
  have h : Hs D ct ad L φ N0 s.heap σ s.heap [] := h
  unfold wp_X11_ironLaid at hw
  refine j_iconst X dX11_ironLaid_0 ?_
  refine lv_istore_n (lv' := [(1, .int (iv 0)), (0, .ref (ad 11 0))]) X.1 X.2.1 dX11_ironLaid_1 rfl hl (by decide) rfl (fun ls hl => ?_)
  refine j_iconst X dX11_ironLaid_2 ?_
  refine lv_istore_n (lv' := [(2, .int (iv 0)), (1, .int (iv 0)), (0, .ref (ad 11 0))]) X.1 X.2.1 dX11_ironLaid_3 rfl hl (by decide) rfl (fun ls hl => ?_)
  exact hw.elim (fun n4 hw => lb_X11_ironLaid_4 X n4 σ 0 0 _ _ _ hw h (lv_sub hl [2, 1, 0] rfl))
end
section
variable {p : Program} {l : Launch} {e : Env} {s : State} {m : MethodId} {args : Array Value} {below : List Frame} {meth : Method} {c : Code} {D : va_G} {ct : Nat → ClassId} {ad : Nat → Nat → Nat} {L : List (Nat × Nat)} {φ : Nat → Nat → Nat → Bool} {N0 : Nat}
variable {Q : Int → St → Prop}
theorem pd_X11_dam : yX11_dam.cls ≠ "java/lang/invoke/MethodHandle" ∧ yX11_dam.cls ≠ "java/lang/invoke/VarHandle" ∧ (parseMethodDescriptor yX11_dam.desc).map (fun d => d.parameters.length) = some 1 := by decide +kernel
def wp_X11_dam (σ : St) (x1 : Int) (Q : Int → St → Prop) : Prop := wp_X11_wayAt σ x1 (fun o_12 σ_1 => match o_12 with | none => Q 0 σ_1 | some j_2 => σ_1 50 10 j_2 ≠ 0 ∧ inR (σ_1 10 j_2 0) ∧ (¬ (σ_1 10 j_2 0) = 4 → Q 0 σ_1) ∧ ((σ_1 10 j_2 0) = 4 → σ_1 50 10 j_2 ≠ 0 ∧ inR (σ_1 10 j_2 4) ∧ inR (σ_1 7 0 3) ∧ (¬ (σ_1 10 j_2 4) = (σ_1 7 0 3) → σ_1 50 10 j_2 ≠ 0 ∧ ∀ σ_9 : St, σ_9 = st σ_1 10 j_2 4 (σ_1 7 0 3) → (Q 1 σ_9)) ∧ ((σ_1 10 j_2 4) = (σ_1 7 0 3) → Q 0 σ_1)))
set_option maxRecDepth 100000 in
set_option maxHeartbeats 4000000 in
theorem c_X11_dam (l : Launch) (D : va_G) (ct : Nat → ClassId) (ad : Nat → Nat → Nat) (L : List (Nat × Nat)) (φ : Nat → Nat → Nat → Bool) (N0 : Nat) (σ : St) (x1 : Int) (Q : Int → St → Prop) (hw : wp_X11_dam σ x1 Q) : Met l yX11_dam (.code yX11_dam cX11_dam 3 (some .boolean) :: gw) ({ frames := 2, cells := 0, slots := 0, locals := 43 } : Room) (Pm D ct ad L φ N0 σ [.ref (ad 11 0), .int (iv x1)]) (Qi D ct ad L φ N0 Q) 0 0 (AA N0) := by
  refine m_of (by decide) (fun p e s m below meth c X hnm h => ?_)
  have hF := X.2.2.2.2.2.2.2.2.1
  have hl := lv_entry ([.ref (ad 11 0), .int (iv x1)]) (n := 3) (Nat.le_of_ble_eq_true rfl)
  rw [lg_entry_eq]
  generalize (lg_sl ([.ref (ad 11 0), .int (iv x1)]) ++ List.replicate (3 - (lg_sl ([.ref (ad 11 0), .int (iv x1)])).length) Slot.unset).toArray = ls at hl ⊢
  have hl : lv_has ls 3 [(0, .ref (ad 11 0)), (1, .int (iv x1))] := hl
  have h : Hs D ct ad L φ N0 s.heap σ s.heap [] := h
  unfold wp_X11_dam at hw
  refine lv_aload_n X.1 X.2.1 dX11_dam_0 rfl (lv_at hl 0 rfl) ?_
  refine lv_iload_n X.1 X.2.1 dX11_dam_1 rfl (lv_at hl 1 rfl) ?_
  refine k_o h (r_V (C := RX11) (ci := 11) (As := [.int (iv x1)]) (rest := []) X h (c_X11_wayAt l D ct ad L φ N0 σ x1 _ hw) rfl rfl ⟨Nat.le_of_ble_eq_true rfl, Nat.le_of_ble_eq_true rfl⟩ kw_847 kw_849 kw_13 kw_120 kw_850 ⟨rfl, pd_X11_wayAt⟩ (hF.1 11 rfl).1 rfl rfl rfl hl.1 rfl (Nat.le_of_ble_eq_true rfl) ⟨Nat.le_of_ble_eq_true rfl, Nat.le_of_ble_eq_true rfl⟩ dX11_dam_2) (fun o_12 σ_1 H locs hw h => ?_)
  cases o_12 with
  | none =>
    refine lv_astore_nN (lv' := [(2, .null), (0, .ref (ad 11 0)), (1, .int (iv x1))]) X.1 X.2.1 dX11_dam_5 rfl hl (by decide) rfl (fun ls hl => ?_)
    refine lv_aload_nN X.1 X.2.1 dX11_dam_6 rfl (lv_at hl 0 rfl) ?_
    refine lv_ifnullN (tgt := 32) X.1 X.2.1 dX11_dam_7 (by decide) ?_
    refine j_iconst X dX11_dam_32 ?_
    exact k_ir X rfl h hw dX11_dam_33
  | some j_2 =>
    refine lv_astore_n (lv' := [(2, .ref (ad 10 j_2)), (0, .ref (ad 11 0)), (1, .int (iv x1))]) X.1 X.2.1 dX11_dam_5 rfl hl (by decide) rfl (fun ls hl => ?_)
    refine lv_aload_n X.1 X.2.1 dX11_dam_6 rfl (lv_at hl 0 rfl) ?_
    refine lv_ifnull X.1 X.2.1 dX11_dam_7 ?_
    refine lv_aload_n X.1 X.2.1 dX11_dam_10 rfl (lv_at hl 0 rfl) ?_
    obtain ⟨g_3, hw⟩ := hw
    refine r_getN (ci := 10) X inw_10 h (h.2.2.2.1 j_2 g_3) rfl rfl 0 (by decide) kw_819 rfl dX11_dam_11 ?_
    refine j_iconst X dX11_dam_14 ?_
    obtain ⟨g_4, hwt, hwf⟩ := hw
    refine j_cmp_ne (tgt := 32) X g_4 ⟨by decide, by decide⟩ dX11_dam_15 (by decide) (fun c_11 => ?_) (fun c_11 => ?_)
    · have hw := hwt c_11
      refine j_iconst X dX11_dam_32 ?_
      exact k_ir X rfl h hw dX11_dam_33
    · have hw := hwf c_11
      refine lv_aload_n X.1 X.2.1 dX11_dam_18 rfl (lv_at hl 0 rfl) ?_
      obtain ⟨g_5, hw⟩ := hw
      refine r_getN (ci := 10) X inw_10 h (h.2.2.2.1 j_2 g_5) rfl rfl 4 (by decide) kw_827 rfl dX11_dam_19 ?_
      refine lv_aload_n X.1 X.2.1 dX11_dam_22 rfl (lv_at hl 1 rfl) ?_
      refine r_getR (ci := 11) X inw_11 h (hF.1 11 rfl).1 rfl rfl 0 (by decide) kw_458 rfl ((hF.1 11 rfl).2 0) dX11_dam_23 ?_
      refine r_getN (ci := 7) X inw_7 h (hF.1 7 rfl).1 rfl rfl 3 (by decide) kw_164 rfl dX11_dam_26 ?_
      obtain ⟨g_6, g_7, hwt, hwf⟩ := hw
      refine j_cmp_ne (tgt := 34) X g_6 g_7 dX11_dam_29 (by decide) (fun c_10 => ?_) (fun c_10 => ?_)
      · have hw := hwt c_10
        refine lv_aload_n X.1 X.2.1 dX11_dam_34 rfl (lv_at hl 0 rfl) ?_
        refine lv_aload_n X.1 X.2.1 dX11_dam_35 rfl (lv_at hl 1 rfl) ?_
        refine r_getR (ci := 11) X inw_11 h (hF.1 11 rfl).1 rfl rfl 0 (by decide) kw_458 rfl ((hF.1 11 rfl).2 0) dX11_dam_36 ?_
        refine r_getN (ci := 7) X inw_7 h (hF.1 7 rfl).1 rfl rfl 3 (by decide) kw_164 rfl dX11_dam_39 ?_
        obtain ⟨g_8, hw⟩ := hw
        refine r_putN (ci := 10) X inw_10 tyX10 tyX10_ok nmX10 h (h.2.2.2.1 j_2 g_8) rfl rfl 4 (by decide) kw_827 rfl rfl rfl (Nat.le_of_ble_eq_true rfl) rfl rfl dX11_dam_42 (fun H locs h => ?_)
        obtain ⟨σ_9, eσ_9⟩ : ∃ z : St, z = st σ_1 10 j_2 4 (σ_1 7 0 3) := ⟨_, rfl⟩
        rw [← eσ_9] at h
        have hw := hw σ_9 eσ_9
        refine j_iconst X dX11_dam_45 ?_
        exact k_ir X rfl h hw dX11_dam_46
      · have hw := hwf c_10
        refine j_iconst X dX11_dam_32 ?_
        exact k_ir X rfl h hw dX11_dam_33
end
section
variable {p : Program} {l : Launch} {e : Env} {s : State} {m : MethodId} {args : Array Value} {below : List Frame} {meth : Method} {c : Code} {D : va_G} {ct : Nat → ClassId} {ad : Nat → Nat → Nat} {L : List (Nat × Nat)} {φ : Nat → Nat → Nat → Bool} {N0 : Nat}
variable {Q : St → Prop}
def wp_X11_floatLogsAtMill_60 (K21 : St → Int → Prop) (Q : St → Prop) (σ : St) (x1 : Int) : Prop := K21 σ (x1 + 1)
set_option maxRecDepth 100000 in
set_option maxHeartbeats 4000000 in
theorem lb_X11_floatLogsAtMill_60 (X : Cx p s m meth c args cX11_floatLogsAtMill 3 none RX11 D ct L φ N0) {K21 : St → Int → Prop} (hK21 : ∀ (σ : St) (x1 : Int) (H : Heap) (locs : List Loc) (ls : Array Slot), K21 σ x1 → Hs D ct ad L φ N0 s.heap σ H locs → lv_has ls 3 [(0, .ref (ad 11 0)), (1, .int (iv x1))] → W p l e ({ frames := 4, cells := 0, slots := 0, locals := 86 } : Room) s m args below meth c H locs 0 0 (MQ below (Qv D ct ad L φ N0 Q) args s 0 0 (AA N0)) (F0 m 21 ls [])) (σ : St) (x1 : Int) (H : Heap) (locs : List Loc) (ls : Array Slot) (hw : wp_X11_floatLogsAtMill_60 K21 Q σ x1) (h : Hs D ct ad L φ N0 s.heap σ H locs) (hl : lv_has ls 3 [(0, .ref (ad 11 0)), (1, .int (iv x1))]) : W p l e ({ frames := 4, cells := 0, slots := 0, locals := 86 } : Room) s m args below meth c H locs 0 0 (MQ below (Qv D ct ad L φ N0 Q) args s 0 0 (AA N0)) (F0 m 60 ls []) := by
  have hF := X.2.2.2.2.2.2.2.2.1
  unfold wp_X11_floatLogsAtMill_60 at hw
  refine j_iinc (kk9 := 1) (lv' := [(1, .int (iv (x1 + 1))), (0, .ref (ad 11 0))]) X dX11_floatLogsAtMill_60 hl rfl (by decide) rfl (fun ls hl => ?_)
  refine lv_goto (tgt := 21) X.1 X.2.1 dX11_floatLogsAtMill_63 (by decide) ?_
  exact hK21 σ (x1 + 1) _ _ _ hw h (lv_sub hl [1, 0] rfl)
def wp_X11_floatLogsAtMill_21 (Q : St → Prop) : Nat → St → Int → Prop
  | 0, _, _ => False
  | n + 1, σ, x1 => inR x1 ∧ inR (σ 11 0 4) ∧ ((σ 11 0 4) ≤ x1 → Q σ) ∧ (¬ (σ 11 0 4) ≤ x1 → 0 ≤ x1 ∧ x1 < 300 ∧ (σ 77 0 (Int.toNat x1) = 0 → wp_X11_floatLogsAtMill_60 (fun σ x1 => wp_X11_floatLogsAtMill_21 Q n σ x1) Q σ x1) ∧ (σ 77 0 (Int.toNat x1) ≠ 0 → σ 50 4 (Int.toNat x1) ≠ 0 → σ 50 4 (Int.toNat x1) ≠ 0 ∧ wp_X4_liesIn σ (Int.toNat x1) (σ 3 0 6) (fun r_7 σ_6 => inR r_7 ∧ (r_7 = 0 → wp_X11_floatLogsAtMill_60 (fun σ x1 => wp_X11_floatLogsAtMill_21 Q n σ x1) Q σ_6 x1) ∧ (¬ r_7 = 0 → wp_X11_become σ_6 (Int.toNat x1) 1 (fun σ_9 => wp_X11_floatLogsAtMill_60 (fun σ x1 => wp_X11_floatLogsAtMill_21 Q n σ x1) Q σ_9 x1)))))
set_option maxRecDepth 100000 in
set_option maxHeartbeats 4000000 in
theorem lb_X11_floatLogsAtMill_21 (X : Cx p s m meth c args cX11_floatLogsAtMill 3 none RX11 D ct L φ N0) : ∀ (n : Nat) (σ : St) (x1 : Int) (H : Heap) (locs : List Loc) (ls : Array Slot), wp_X11_floatLogsAtMill_21 Q n σ x1 → Hs D ct ad L φ N0 s.heap σ H locs → lv_has ls 3 [(0, .ref (ad 11 0)), (1, .int (iv x1))] → W p l e ({ frames := 4, cells := 0, slots := 0, locals := 86 } : Room) s m args below meth c H locs 0 0 (MQ below (Qv D ct ad L φ N0 Q) args s 0 0 (AA N0)) (F0 m 21 ls []) := by
  have hF := X.2.2.2.2.2.2.2.2.1
  intro n
  induction n with
  | zero => intro σ x1 H locs ls hw; exact hw.elim
  | succ n ih =>
    intro σ x1 H locs ls hw h hl
    unfold wp_X11_floatLogsAtMill_21 at hw
    refine lv_iload_n X.1 X.2.1 dX11_floatLogsAtMill_21 rfl (lv_at hl 1 rfl) ?_
    refine lv_aload_n X.1 X.2.1 dX11_floatLogsAtMill_22 rfl (lv_at hl 0 rfl) ?_
    refine r_get (ci := 11) X inw_11 h (hF.1 11 rfl).1 rfl rfl 4 (by decide) kw_462 rfl dX11_floatLogsAtMill_23 ?_
    obtain ⟨g_1, g_2, hwt, hwf⟩ := hw
    refine j_cmp_ge (tgt := 66) X g_1 g_2 dX11_floatLogsAtMill_26 (by decide) (fun c_13 => ?_) (fun c_13 => ?_)
    · have hw := hwt c_13
      exact k_vr X h hw dX11_floatLogsAtMill_66
    · have hw := hwf c_13
      refine lv_aload_n X.1 X.2.1 dX11_floatLogsAtMill_29 rfl (lv_at hl 0 rfl) ?_
      refine r_getR (ci := 11) X inw_11 h (hF.1 11 rfl).1 rfl rfl 3 (by decide) kw_461 rfl ((hF.1 11 rfl).2 3) dX11_floatLogsAtMill_30 ?_
      refine lv_iload_n X.1 X.2.1 dX11_floatLogsAtMill_33 rfl (lv_at hl 1 rfl) ?_
      obtain ⟨g_3, g_4, hwt, hwf⟩ := hw
      refine r_aaD (n := 300) (t := 3) X h (hF.1 77 rfl).1 rfl rfl (by decide) g_3 g_4 dX11_floatLogsAtMill_34 (fun c_11 => ?_) (fun c_11 => ?_)
      · have hw := hwt c_11
        refine lv_astore_nN (lv' := [(2, .null), (0, .ref (ad 11 0)), (1, .int (iv x1))]) X.1 X.2.1 dX11_floatLogsAtMill_35 rfl hl (by decide) rfl (fun ls hl => ?_)
        refine lv_aload_nN X.1 X.2.1 dX11_floatLogsAtMill_36 rfl (lv_at hl 0 rfl) ?_
        refine lv_ifnullN (tgt := 60) X.1 X.2.1 dX11_floatLogsAtMill_37 (by decide) ?_
        exact lb_X11_floatLogsAtMill_60 X ih σ x1 _ _ _ hw h (lv_sub hl [1, 2] rfl)
      · have hw := hwf c_11 (h.2.2.2.2.2.1 _ c_11)
        refine lv_astore_n (lv' := [(2, .ref (ad 4 (Int.toNat x1))), (0, .ref (ad 11 0)), (1, .int (iv x1))]) X.1 X.2.1 dX11_floatLogsAtMill_35 rfl hl (by decide) rfl (fun ls hl => ?_)
        refine lv_aload_n X.1 X.2.1 dX11_floatLogsAtMill_36 rfl (lv_at hl 0 rfl) ?_
        refine lv_ifnull X.1 X.2.1 dX11_floatLogsAtMill_37 ?_
        refine lv_aload_n X.1 X.2.1 dX11_floatLogsAtMill_40 rfl (lv_at hl 0 rfl) ?_
        refine lv_aload_n X.1 X.2.1 dX11_floatLogsAtMill_41 rfl (lv_at hl 1 rfl) ?_
        refine r_getR (ci := 11) X inw_11 h (hF.1 11 rfl).1 rfl rfl 1 (by decide) kw_459 rfl ((hF.1 11 rfl).2 1) dX11_floatLogsAtMill_42 ?_
        refine r_getN (ci := 3) X inw_3 h (hF.1 3 rfl).1 rfl rfl 6 (by decide) kw_201 rfl dX11_floatLogsAtMill_45 ?_
        obtain ⟨g_5, hw⟩ := hw
        refine k_i h (r_V (C := RX4) (ci := 4) (As := [.int (iv (σ 3 0 6))]) (rest := []) X h (c_X4_liesIn l D ct ad L φ N0 σ (Int.toNat x1) (σ 3 0 6) _ hw) rfl rfl ⟨Nat.le_of_ble_eq_true rfl, Nat.le_of_ble_eq_true rfl⟩ kw_904 kw_891 kw_892 kw_131 kw_893 ⟨rfl, pd_X4_liesIn⟩ (h.2.2.1 (Int.toNat x1) g_5).1 rfl rfl rfl hl.1 rfl (Nat.le_of_ble_eq_true rfl) ⟨Nat.le_of_ble_eq_true rfl, Nat.le_of_ble_eq_true rfl⟩ dX11_floatLogsAtMill_48) (fun r_7 σ_6 H locs hw h => ?_)
        obtain ⟨g_8, hwt, hwf⟩ := hw
        refine j_if_eq (tgt := 60) X g_8 dX11_floatLogsAtMill_51 (by decide) (fun c_10 => ?_) (fun c_10 => ?_)
        · have hw := hwt c_10
          exact lb_X11_floatLogsAtMill_60 X ih σ_6 x1 _ _ _ hw h (lv_sub hl [1, 2] rfl)
        · have hw := hwf c_10
          refine lv_aload_n X.1 X.2.1 dX11_floatLogsAtMill_54 rfl (lv_at hl 1 rfl) ?_
          refine lv_aload_n X.1 X.2.1 dX11_floatLogsAtMill_55 rfl (lv_at hl 0 rfl) ?_
          refine j_iconst X dX11_floatLogsAtMill_56 ?_
          refine k_v h (r_V (C := RX11) (ci := 11) (As := [.ref (ad 4 (Int.toNat x1)), .int (iv 1)]) (rest := []) X h (c_X11_become l D ct ad L φ N0 σ_6 (Int.toNat x1) 1 _ hw) rfl rfl ⟨Nat.le_of_ble_eq_true rfl, Nat.le_of_ble_eq_true rfl⟩ kw_772 kw_774 kw_11 kw_120 kw_775 ⟨rfl, pd_X11_become⟩ (hF.1 11 rfl).1 rfl rfl rfl hl.1 rfl (Nat.le_of_ble_eq_true rfl) ⟨Nat.le_of_ble_eq_true rfl, Nat.le_of_ble_eq_true rfl⟩ dX11_floatLogsAtMill_57) (fun σ_9 H locs hw h => ?_)
          exact lb_X11_floatLogsAtMill_60 X ih σ_9 x1 _ _ _ hw h (lv_sub hl [1, 2] rfl)
theorem pd_X11_floatLogsAtMill : yX11_floatLogsAtMill.cls ≠ "java/lang/invoke/MethodHandle" ∧ yX11_floatLogsAtMill.cls ≠ "java/lang/invoke/VarHandle" ∧ (parseMethodDescriptor yX11_floatLogsAtMill.desc).map (fun d => d.parameters.length) = some 0 := by decide +kernel
def wp_X11_floatLogsAtMill (σ : St) (Q : St → Prop) : Prop := 0 ≤ (σ 3 0 6) ∧ (σ 3 0 6) < 64 ∧ inR (σ 31 0 (Int.toNat (σ 3 0 6))) ∧ (¬ (σ 31 0 (Int.toNat (σ 3 0 6))) = 0 → ∃ n21, wp_X11_floatLogsAtMill_21 Q n21 σ 0) ∧ ((σ 31 0 (Int.toNat (σ 3 0 6))) = 0 → Q σ)
set_option maxRecDepth 100000 in
set_option maxHeartbeats 4000000 in
theorem c_X11_floatLogsAtMill (l : Launch) (D : va_G) (ct : Nat → ClassId) (ad : Nat → Nat → Nat) (L : List (Nat × Nat)) (φ : Nat → Nat → Nat → Bool) (N0 : Nat) (σ : St) (Q : St → Prop) (hw : wp_X11_floatLogsAtMill σ Q) : Met l yX11_floatLogsAtMill (.code yX11_floatLogsAtMill cX11_floatLogsAtMill 3 none :: gw) ({ frames := 4, cells := 0, slots := 0, locals := 86 } : Room) (Pm D ct ad L φ N0 σ [.ref (ad 11 0)]) (Qv D ct ad L φ N0 Q) 0 0 (AA N0) := by
  refine m_of (by decide) (fun p e s m below meth c X hnm h => ?_)
  have hF := X.2.2.2.2.2.2.2.2.1
  have hl := lv_entry ([.ref (ad 11 0)]) (n := 3) (Nat.le_of_ble_eq_true rfl)
  rw [lg_entry_eq]
  generalize (lg_sl ([.ref (ad 11 0)]) ++ List.replicate (3 - (lg_sl ([.ref (ad 11 0)])).length) Slot.unset).toArray = ls at hl ⊢
  have hl : lv_has ls 3 [(0, .ref (ad 11 0))] := hl
  have h : Hs D ct ad L φ N0 s.heap σ s.heap [] := h
  unfold wp_X11_floatLogsAtMill at hw
  refine lv_aload_n X.1 X.2.1 dX11_floatLogsAtMill_0 rfl (lv_at hl 0 rfl) ?_
  refine r_getR (ci := 11) X inw_11 h (hF.1 11 rfl).1 rfl rfl 1 (by decide) kw_459 rfl ((hF.1 11 rfl).2 1) dX11_floatLogsAtMill_1 ?_
  refine r_getRN (ci := 3) X inw_3 h (hF.1 3 rfl).1 rfl rfl 3 (by decide) kw_195 rfl ((hF.1 3 rfl).2 3) dX11_floatLogsAtMill_4 ?_
  refine lv_aload_n X.1 X.2.1 dX11_floatLogsAtMill_7 rfl (lv_at hl 0 rfl) ?_
  refine r_getR (ci := 11) X inw_11 h (hF.1 11 rfl).1 rfl rfl 1 (by decide) kw_459 rfl ((hF.1 11 rfl).2 1) dX11_floatLogsAtMill_8 ?_
  refine r_getN (ci := 3) X inw_3 h (hF.1 3 rfl).1 rfl rfl 6 (by decide) kw_201 rfl dX11_floatLogsAtMill_11 ?_
  obtain ⟨g_14, g_15, hw⟩ := hw
  refine r_iald (n := 64) X h (hF.1 31 rfl).1 rfl (by decide) g_14 g_15 dX11_floatLogsAtMill_14 ?_
  obtain ⟨g_16, hwt, hwf⟩ := hw
  refine j_if_ne (tgt := 19) X g_16 dX11_floatLogsAtMill_15 (by decide) (fun c_17 => ?_) (fun c_17 => ?_)
  · have hw := hwt c_17
    refine j_iconst X dX11_floatLogsAtMill_19 ?_
    refine lv_istore_n (lv' := [(1, .int (iv 0)), (0, .ref (ad 11 0))]) X.1 X.2.1 dX11_floatLogsAtMill_20 rfl hl (by decide) rfl (fun ls hl => ?_)
    exact hw.elim (fun n21 hw => lb_X11_floatLogsAtMill_21 X n21 σ 0 _ _ _ hw h (lv_sub hl [1, 0] rfl))
  · have hw := hwf c_17
    exact k_vr X h hw dX11_floatLogsAtMill_18
end
