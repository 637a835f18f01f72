/-! constructors: worlds as lists of cells -/
def Ao (U : State) : Prop := va_AOA .int U ∧ va_AO RX4 U ∧ va_AO RX10 U ∧ va_AO RX1 U
theorem Ao.warm {s U : State} (hW : s.WarmedH U.vm) (h : Ao s) : Ao U := ⟨va_AOA.warm hW h.1, va_AO.moved hW.alike h.2.1, va_AO.moved hW.alike h.2.2.1, va_AO.moved hW.alike h.2.2.2⟩
theorem Ao.same {u U : State} (e : u.vm = U.vm) (h : Ao u) : Ao U := by
  have hA : u.vm.Alike U.vm := by rw [e]; exact Vm.Alike.refl U.vm
  exact ⟨va_AOA.same e h.1, va_AO.moved hA h.2.1, va_AO.moved hA h.2.2.1, va_AO.moved hA h.2.2.2⟩
def Pz (D : va_G) (ct : Nat → ClassId) (sz : Nat) (ws : va_W) (av : List Value) : Array Value → State → Prop := fun v U => v = av.toArray ∧ U.heap.size = sz ∧ va_P D vwCl ws U.heap ∧ va_D (fun _ => True) ws ∧ va_K D vwCl (tyl ct) U ∧ NW U ∧ Ao U
theorem Pz_blind {D : va_G} {ct : Nat → ClassId} {sz : Nat} {ws : va_W} {av : List Value} : FrameBlind (Pz D ct sz ws av) := by
  intro a U g mk h
  obtain ⟨h1, h2, h3, h4, h5, h6, h7⟩ := h
  exact ⟨h1, h2, h3, h4, va_K.moved (u := U) (U := U.calling g mk a) (Vm.Alike.refl U.vm) h5, NW.same (u := U) (U := U.calling g mk a) rfl h6, Ao.same (u := U) (U := U.calling g mk a) rfl h7⟩
def Cz (p : Program) (s : State) (m : MethodId) (meth : Method) (c : Code) (args : Array Value) (cc : ByteArray) (nL : Nat) (ret : Option FieldType) (own : String) (D : va_G) (ct : Nat → ClassId) : Prop :=
  p.tables.exec = Jvm.exec ∧ c.code = cc ∧ c.maxLocals = nL ∧ meth.sig.returnType = ret ∧ s.vm.findClass own = some m.cls ∧ meth.locks = false ∧ (∀ w ∈ gw, w.before args s = true) ∧ va_K D vwCl (tyl ct) s ∧ NW s ∧ Ao s
theorem m_ofZ {l : Launch} {cc : ByteArray} {ret : Option FieldType} {D : va_G} {ct : Nat → ClassId} {y : MethodName} {rm : Room} {Qc : Array Value → State → Outcome → State → Prop} {mc ms maxL sz : Nat} {av : List Value} {ws : va_W} {free : Addr → Prop} (hy : plainName y.cls = true)
    (body : ∀ (p : Program) (e : Env) (s : State) (m : MethodId) (below : List Frame) (meth : Method) (c : Code), Cz p s m meth c av.toArray cc maxL ret y.cls D ct → (meth.name = y.name) → s.heap.size = sz → va_P D vwCl ws s.heap → va_D (fun _ => True) ws →
      W p l e rm s m av.toArray below meth c s.heap [] 0 0 (MQ below Qc av.toArray s mc ms free) (entryFrame m av.toArray maxL)) : Met l y (.code y cc maxL ret :: gw) rm (Pz D ct sz ws av) Qc mc ms free := by
  refine Met.ofW (cc := cc) (maxL := maxL) (ret := ret) hy rfl ?_
  intro p e s m args below meth c s₁ B hml hv
  obtain ⟨rfl, h1, h2, h3, h4, h5, h6⟩ := hv
  have hts := atoms_spec (ws := .code y cc maxL ret :: gw) B.pre
  exact body p e s m below meth c ⟨B.exec, B.bytes, hml, B.returns, findClass_of_methodNamed B.named, B.notSynchronized, fun w hw => hts w (List.mem_cons_of_mem _ hw), h4, h5, h6⟩ (name_of_methodNamed B.named B.method).1 h1 h2 h3
theorem z_upd (F : Nat → Int) (k : Nat) (v : Int) : upd (fun i => iv (F i)) k (iv v) = fun i => iv (up F k v i) := by
  funext i
  unfold upd up
  split <;> rfl
section ZR
variable {p : Program} {l : Launch} {e : Env} {R : Room} {s : State} {m : MethodId} {args : Array Value} {below : List Frame} {meth : Method} {c : Code} {H : Heap} {locs : List Loc} {cells slots : Nat} {Q : State → Prop}
variable {cc : ByteArray} {pc : Nat} {ls : Array Slot} {rest : List Value} {D : va_G} {ct : Nat → ClassId} {A : Nat → Prop} {ws : va_W} {H0 : Heap} {nL : Nat} {ret : Option FieldType} {own : String}
theorem z_newI (Z : Cz p s m meth c args cc nL ret own D ct) (hP : va_P D vwCl ws H) (hD : va_D A ws) (hS : va_S A H0 H locs) (hA : ∀ q, H0.size ≤ q → A q) {n : Int} {N' : Nat} (h0 : 0 ≤ n) (hN : n.toNat = N') (hb9 : n < 100000) (hw : Cond.arrayClass .int ∈ gw) (hcells : cells + 1 ≤ R.cells) (hslots : slots + N' ≤ R.slots) (hdg : decode cc pc = .ok (.newarray .int, 2))
    (kk : ∀ (q : Nat) (H1 : Heap), va_P D vwCl (ws ++ [(q, .inl (ct 0, N', .inl (fun i => iv (z0 i))))]) H1 → va_D A (ws ++ [(q, .inl (ct 0, N', .inl (fun i => iv (z0 i))))]) → va_S A H0 H1 locs →
      W p l e R s m args below meth c H1 locs (cells + 1) (slots + N') Q (F0 m (pc + 2) ls (.ref q :: rest))) : W p l e R s m args below meth c H locs cells slots Q (F0 m pc ls (.int (iv n) :: rest)) := by
  obtain ⟨hx, hb, -, -, hown, -, hts, hK, -, -⟩ := Z
  have hR : inR n := ⟨by omega, by omega⟩
  refine va_newa hx hb (atype := .int) (hts _ hw) (ty := .int) rfl hK hP hD hS hA (N' := N') (a0 := (N', .inl (fun i => iv (z0 i)))) (fun cA => rfl) (by have := (iv_lt hR (y := 0) ⟨by decide, by decide⟩); intro q; exact absurd (this.mp q) (by omega)) (by rw [iv_clamp hR]; exact hN) (by show N' * 4 ≤ 536870912; omega) hcells hslots hdg (fun q cA H1 hK1 hP1 hD1 hS1 => ?_)
  have e1 : cA = ct 0 := by
    have a1 := (hK1.2 8 (cA, .int) rfl).2
    have a2 := (hK.2 0 (ct 0, .int) rfl).2
    exact Option.some.inj (a1.symm.trans a2)
  rw [e1] at hP1 hD1
  exact kk q H1 hP1 hD1 hS1
theorem z_newZ (Z : Cz p s m meth c args cc nL ret own D ct) (hP : va_P D vwCl ws H) (hD : va_D A ws) (hS : va_S A H0 H locs) (hA : ∀ q, H0.size ≤ q → A q) {n : Int} {N' : Nat} (h0 : 0 ≤ n) (hN : n.toNat = N') (hb9 : n < 100000) (hw : Cond.arrayClass .boolean ∈ gw) (hcells : cells + 1 ≤ R.cells) (hslots : slots + N' ≤ R.slots) (hdg : decode cc pc = .ok (.newarray .boolean, 2))
    (kk : ∀ (q : Nat) (H1 : Heap), va_P D vwCl (ws ++ [(q, .inl (ct 1, N', .inl (fun i => iv (z0 i))))]) H1 → va_D A (ws ++ [(q, .inl (ct 1, N', .inl (fun i => iv (z0 i))))]) → va_S A H0 H1 locs →
      W p l e R s m args below meth c H1 locs (cells + 1) (slots + N') Q (F0 m (pc + 2) ls (.ref q :: rest))) : W p l e R s m args below meth c H locs cells slots Q (F0 m pc ls (.int (iv n) :: rest)) := by
  obtain ⟨hx, hb, -, -, hown, -, hts, hK, -, -⟩ := Z
  have hR : inR n := ⟨by omega, by omega⟩
  refine va_newa hx hb (atype := .boolean) (hts _ hw) (ty := .boolean) rfl hK hP hD hS hA (N' := N') (a0 := (N', .inl (fun i => iv (z0 i)))) (fun cA => rfl) (by have := (iv_lt hR (y := 0) ⟨by decide, by decide⟩); intro q; exact absurd (this.mp q) (by omega)) (by rw [iv_clamp hR]; exact hN) (by show N' * 1 ≤ 536870912; omega) hcells hslots hdg (fun q cA H1 hK1 hP1 hD1 hS1 => ?_)
  have e1 : cA = ct 1 := by
    have a1 := (hK1.2 8 (cA, .boolean) rfl).2
    have a2 := (hK.2 1 (ct 1, .boolean) rfl).2
    exact Option.some.inj (a1.symm.trans a2)
  rw [e1] at hP1 hD1
  exact kk q H1 hP1 hD1 hS1
theorem z_newB (Z : Cz p s m meth c args cc nL ret own D ct) (hP : va_P D vwCl ws H) (hD : va_D A ws) (hS : va_S A H0 H locs) (hA : ∀ q, H0.size ≤ q → A q) {n : Int} {N' : Nat} (h0 : 0 ≤ n) (hN : n.toNat = N') (hb9 : n < 100000) (hw : Cond.arrayClass .byte ∈ gw) (hcells : cells + 1 ≤ R.cells) (hslots : slots + N' ≤ R.slots) (hdg : decode cc pc = .ok (.newarray .byte, 2))
    (kk : ∀ (q : Nat) (H1 : Heap), va_P D vwCl (ws ++ [(q, .inl (ct 2, N', .inl (fun i => iv (z0 i))))]) H1 → va_D A (ws ++ [(q, .inl (ct 2, N', .inl (fun i => iv (z0 i))))]) → va_S A H0 H1 locs →
      W p l e R s m args below meth c H1 locs (cells + 1) (slots + N') Q (F0 m (pc + 2) ls (.ref q :: rest))) : W p l e R s m args below meth c H locs cells slots Q (F0 m pc ls (.int (iv n) :: rest)) := by
  obtain ⟨hx, hb, -, -, hown, -, hts, hK, -, -⟩ := Z
  have hR : inR n := ⟨by omega, by omega⟩
  refine va_newa hx hb (atype := .byte) (hts _ hw) (ty := .byte) rfl hK hP hD hS hA (N' := N') (a0 := (N', .inl (fun i => iv (z0 i)))) (fun cA => rfl) (by have := (iv_lt hR (y := 0) ⟨by decide, by decide⟩); intro q; exact absurd (this.mp q) (by omega)) (by rw [iv_clamp hR]; exact hN) (by show N' * 1 ≤ 536870912; omega) hcells hslots hdg (fun q cA H1 hK1 hP1 hD1 hS1 => ?_)
  have e1 : cA = ct 2 := by
    have a1 := (hK1.2 8 (cA, .byte) rfl).2
    have a2 := (hK.2 2 (ct 2, .byte) rfl).2
    exact Option.some.inj (a1.symm.trans a2)
  rw [e1] at hP1 hD1
  exact kk q H1 hP1 hD1 hS1
theorem z_iast (Z : Cz p s m meth c args cc nL ret own D ct) (hP : va_P D vwCl ws H) (hD : va_D A ws) (hS : va_S A H0 H locs) (q0 : Nat) {a n : Nat} {F : Nat → Int} (ha : ws[q0]? = some (a, .inl (ct 0, n, .inl (fun i => iv (F i))))) (hn : n < 2147483648) {x v : Int} (h0 : 0 ≤ x) (h1 : x < n) (hdg : decode cc pc = .ok (.iastore, 1))
    (kk : ∀ (H1 : Heap) (locs1 : List Loc), va_P D vwCl (ws.set q0 (a, .inl (ct 0, n, .inl (fun i => iv (up F x.toNat v i))))) H1 → va_D A (ws.set q0 (a, .inl (ct 0, n, .inl (fun i => iv (up F x.toNat v i))))) → va_S A H0 H1 locs1 → W p l e R s m args below meth c H1 locs1 cells slots Q (F0 m (pc + 1) ls rest)) : W p l e R s m args below meth c H locs cells slots Q (F0 m pc ls (.int (iv v) :: .int (iv x) :: .ref a :: rest)) := by
  obtain ⟨hx, hb, -, -, hown, -, hts, hK, -, -⟩ := Z
  refine va_iast hx hb hK hP hD hS q0 0 ha rfl (iv_in hn h0 h1) hdg (fun H1 locs1 hP1 hD1 hS1 => ?_)
  rw [iv_clamp ⟨by omega, by omega⟩, z_upd] at hP1 hD1
  exact kk H1 locs1 hP1 hD1 hS1
theorem z_newq (Z : Cz p s m meth c args cc nL ret own D ct) (hP : va_P D vwCl ws H) (hD : va_D A ws) (hS : va_S A H0 H locs) (hA : ∀ q, H0.size ≤ q → A q) {C : String} {index t : Nat} (ht : (tyl ct)[t]? = some (ct t, .object C)) (hao : va_AO C s) (hw : Cond.classLink own index C ∈ gw) {n : Int} {N' : Nat} (h0 : 0 ≤ n) (hN : n.toNat = N') (hb9 : n < 100000) (hcells : cells + 1 ≤ R.cells) (hslots : slots + N' ≤ R.slots) (hdg : decode cc pc = .ok (.anewarray index, 3))
    (kk : ∀ (q : Nat) (H1 : Heap), va_P D vwCl (ws ++ [(q, .inl (ct t, N', .inr (.inr (.inr (.inr (fun _ => none))))))]) H1 → va_D A (ws ++ [(q, .inl (ct t, N', .inr (.inr (.inr (.inr (fun _ => none))))))]) → va_S A H0 H1 locs →
      W p l e R s m args below meth c H1 locs (cells + 1) (slots + N') Q (F0 m (pc + 3) ls (.ref q :: rest))) : W p l e R s m args below meth c H locs cells slots Q (F0 m pc ls (.int (iv n) :: rest)) := by
  obtain ⟨hx, hb, -, -, hown, -, hts, hK, -, -⟩ := Z
  have hR : inR n := ⟨by omega, by omega⟩
  refine va_newq hx hb hown (hts _ hw) hao hK hP hD hS hA (N' := N') (by have := (iv_lt hR (y := 0) ⟨by decide, by decide⟩); intro q; exact absurd (this.mp q) (by omega)) (by rw [iv_clamp hR]; exact hN) (by omega) hcells hslots hdg (fun q cA H1 hK1 hP1 hD1 hS1 => ?_)
  have e1 : cA = ct t := by
    obtain ⟨kA, comp, -, -, -, a1⟩ := (hK1.2 8 (cA, .object C) rfl).2
    obtain ⟨kA', comp', -, -, -, a2⟩ := (hK.2 t (ct t, .object C) ht).2
    exact Option.some.inj (a1.symm.trans a2)
  rw [e1] at hP1 hD1
  exact kk q H1 hP1 hD1 hS1
theorem z_rows {f : Nat → va_E} {e9 : va_E} {r : Nat → Nat} (n : Nat) : va_pl ([] ++ (List.range n).map r) (vr_up f ((List.range n).map r) e9) = (List.range n).map (fun i => (r i, e9)) := by
  unfold va_pl
  rw [List.nil_append, List.map_map]
  apply List.map_congr_left
  intro a ha
  show (r a, vr_up f ((List.range n).map r) e9 (r a)) = _
  rw [vr_up_in (List.mem_map.mpr ⟨a, ha, rfl⟩)]
theorem z_mna (Z : Cz p s m meth c args cc nL ret own D ct) (hP : va_P D vwCl ws H) (hD : va_D A ws) (hS : va_S A H0 H locs) (hA : ∀ q, H0.size ≤ q → A q) {index : Nat} (hw : Cond.classLink own index "[[I" ∈ gw) (hw2 : Cond.arrayClass .int ∈ gw) {n k : Int} {N' K' : Nat} (h0 : 0 ≤ n) (hN : n.toNat = N') (hb9 : n < 100000) (k0 : 0 ≤ k) (hK9 : k.toNat = K') (kb9 : k < 100000) (hcells : cells + (1 + N') ≤ R.cells) (hslots : slots + (N' + N' * K') ≤ R.slots) (hdg : decode cc pc = .ok (.multianewarray index 2, 4))
    (kk : ∀ (q : Nat) (r : Nat → Nat) (H1 : Heap), va_P D vwCl ((ws ++ [(q, .inl (ct 6, N', .inr (.inr (.inr (.inr (fun i => if i < N' then some (r i) else none))))))]) ++ (List.range N').map (fun i => (r i, .inl (ct 0, K', .inl (fun i => iv (z0 i)))))) H1 → va_D A ((ws ++ [(q, .inl (ct 6, N', .inr (.inr (.inr (.inr (fun i => if i < N' then some (r i) else none))))))]) ++ (List.range N').map (fun i => (r i, .inl (ct 0, K', .inl (fun i => iv (z0 i)))))) → va_S A H0 H1 locs →
      W p l e R s m args below meth c H1 locs (cells + 1 + N') (slots + N' + N' * K') Q (F0 m (pc + 4) ls (.ref q :: rest))) : W p l e R s m args below meth c H locs cells slots Q (F0 m pc ls (.int (iv k) :: .int (iv n) :: rest)) := by
  obtain ⟨hx, hb, -, -, hown, -, hts, hK, -, hao⟩ := Z
  have hR : inR n := ⟨by omega, by omega⟩
  have hRk : inR k := ⟨by omega, by omega⟩
  have hP0 : va_P D vwCl (ws ++ va_pl [] (fun _ => .inr (0, []))) H := by simpa [va_pl] using hP
  have hD0 : va_D A (ws ++ va_pl [] (fun _ => .inr (0, []))) := by simpa [va_pl] using hD
  refine va_mna hx hb hown (ty := .int) (cy := ct 0) (hts _ hw) hao.1 (hts _ hw2) (hK.2 0 (ct 0, .int) rfl).2 hK hP0 hD0 hS hA (N' := N') (K' := K') (z := (K', .inl (fun i => iv (z0 i)))) (by have := (iv_lt hR (y := 0) ⟨by decide, by decide⟩); intro q; exact absurd (this.mp q) (by omega)) (by have := (iv_lt hRk (y := 0) ⟨by decide, by decide⟩); intro q; exact absurd (this.mp q) (by omega)) (by rw [iv_clamp hR]; exact hN) (by rw [iv_clamp hRk]; exact hK9) (by omega) (by show K' * 4 ≤ 536870912; omega) (by omega) rfl rfl hcells hslots (fun c9 => by show ({ cls := c9, slots := Array.replicate K' (.int 0), vm := .none } : Cell) = _; rw [arrV_new]; rfl) hdg (fun q r cA H1 hinj hnot hK1 hP1 hD1 hS1 => ?_)
  have e1 : cA = ct 6 := by
    have a1 := (hK1.2 8 (cA, .array .int) rfl).2
    have a2 := (hK.2 6 (ct 6, .array .int) rfl).2
    exact Option.some.inj (a1.symm.trans a2)
  rw [e1, z_rows] at hP1 hD1
  exact kk q r H1 hP1 hD1 hS1
end ZR
