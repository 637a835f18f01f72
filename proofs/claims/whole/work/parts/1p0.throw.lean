/-! throwing and catching: rows over the world -/
def NSE : String := "java/util/NoSuchElementException"
def nmE : List String := ["java/lang/RuntimeException", "java/lang/Exception"]
abbrev dRE : Cond := .declares (Bundle.init0 "java/lang/RuntimeException")
abbrev dEX : Cond := .declares (Bundle.init0 "java/lang/Exception")
abbrev dTH : Cond := .declares (Bundle.init0 Bundle.tN)
def Zw (U : State) : Prop := va_Nw (.castable NSE NSE) U ∧ va_Nw dRE U ∧ va_Nw dEX U ∧ va_Nw dTH U
/-- two statics of Throwable's, and words of the class thrown -/
def Zx (N0 : Nat) (U : State) : Prop := vx_Zq Bundle.tN "UNASSIGNED_STACK" Bundle.steD (AA N0) U U.heap ∧ vx_Zq Bundle.tN "SUPPRESSED_SENTINEL" Bundle.listD (AA N0) U U.heap ∧ Zw U
theorem Zx.go {N0 : Nat} {s U : State} {H : Heap} {locs : List Loc} (hW : s.WarmedH U.vm) (hU : U.heap = H) (hS : va_S (AA N0) s.heap H locs) (h : Zx N0 s) : Zx N0 U := by
  have hk : ∀ a : Nat, a < s.heap.size → ¬ AA N0 a → U.heap[a]? = s.heap[a]? := fun a h1 h2 => by rw [hU]; exact hS.2.1 a h1 h2
  have hA := hW.alike
  exact ⟨(vx_Zq.moved hA h.1).kept hk, (vx_Zq.moved hA h.2.1).kept hk, va_Nw.warmC hW h.2.2.1, va_Nw.warmD hW h.2.2.2.1, va_Nw.warmD hW h.2.2.2.2.1, va_Nw.warmD hW h.2.2.2.2.2⟩
theorem Zx.same {N0 : Nat} {u U : State} (hv : u.vm = U.vm) (hh : U.heap = u.heap) (h : Zx N0 u) : Zx N0 U := by
  have hA : u.vm.Alike U.vm := by rw [hv]; exact Vm.Alike.refl U.vm
  unfold Zx
  rw [hh]
  exact ⟨vx_Zq.moved hA h.1, vx_Zq.moved hA h.2.1, va_Nw.same rfl hv h.2.2.1, va_Nw.same rfl hv h.2.2.2.1, va_Nw.same rfl hv h.2.2.2.2.1, va_Nw.same rfl hv h.2.2.2.2.2⟩
theorem nseW : ∀ w ∈ (vx_at0 RX11 380 NSE nmE).filter goodWord, w ∈ lw_tbl := by decide +kernel
theorem nseB : ∀ w ∈ (vx_at0 RX11 380 NSE nmE).filter (fun w => !goodWord w), w ∈ [Cond.castable NSE NSE, dRE, dEX, dTH] := by decide +kernel
theorem nseO : ∀ w ∈ Cond.classLink RX11 378 NSE :: Cond.initialized NSE :: vx_at0 RX11 380 NSE nmE, vx_ot w = true := by decide +kernel
theorem nseF : Bundle.fit NSE = true := by decide +kernel
theorem nseN : ∀ n ∈ nmE, Bundle.fit n = true := by decide +kernel
section XR
variable {p : Program} {l : Launch} {e : Env} {R : Room} {s : State} {m : MethodId} {args : Array Value} {below : List Frame} {meth : Method} {c : Code} {H : Heap} {locs : List Loc} {cells slots : Nat} {Q : State → Prop}
variable {cc : ByteArray} {pc : Nat} {ls : Array Slot} {rest : List Value} {D : va_G} {ct : Nat → ClassId} {ad : Nat → Nat → Nat} {L : List (Nat × Nat)} {φ : Nat → Nat → Nat → Bool} {N0 : Nat} {σ : St}
variable {nL : Nat} {ret : Option FieldType} {own : String}
def Pmx (D : va_G) (ct : Nat → ClassId) (ad : Nat → Nat → Nat) (L : List (Nat × Nat)) (φ : Nat → Nat → Nat → Bool) (N0 : Nat) (σ : St) (av : List Value) : Array Value → State → Prop := fun v U => Pm D ct ad L φ N0 σ av v U ∧ Zx N0 U
theorem Pmx_blind {av : List Value} : FrameBlind (Pmx D ct ad L φ N0 σ av) := by
  intro a U g mk h
  exact ⟨Pm_blind a U g mk h.1, Zx.same (u := U) (U := U.calling g mk a) rfl rfl h.2⟩
theorem Pmx_of (hZ : Zx N0 s) {av : List Value} {U : State} (hU : U.heap = H) (hW : s.WarmedH U.vm) (hK : Kx D ct N0 s) (hF : FullS L φ) (hN : N0 ≤ s.heap.size) (h : Hs D ct ad L φ N0 s.heap σ H locs) : Pmx D ct ad L φ N0 σ av av.toArray U := ⟨Pm_of hU hW hK hF hN h, Zx.go hW hU h.2.1 hZ⟩
def Yx (l : Launch) (c : Code) (N0 : Nat) (s : State) : Prop := l.stackTraces = false ∧ (∀ x ∈ c.exceptionTable.toList, False) ∧ Zx N0 s
def Xq (D : va_G) (ct : Nat → ClassId) (ad : Nat → Nat → Nat) (L : List (Nat × Nat)) (φ : Nat → Nat → Nat → Bool) (N0 : Nat) (Qx : St → Prop) : String → State → State → Prop := vx_X (S := St) Qx (fun E u t => E = NSE ∧ Rel D ct ad L φ N0 u t.heap ∧ Dyn L φ u) (AA N0)
theorem m_ofX {y : MethodName} {rm : Room} {Qc : Array Value → State → Outcome → State → Prop} {XC : String → State → State → Prop} {mc ms maxL : Nat} {av : List Value} (hy : plainName y.cls = true) (hl0 : l.stackTraces = false)
    (body : ∀ (p : Program) (e : Env) (s : State) (m : MethodId) (below : List Frame) (meth : Method) (c : Code), Cx p s m meth c av.toArray cc maxL ret y.cls D ct L φ N0 → Yx l c N0 s → Hs D ct ad L φ N0 s.heap σ s.heap [] →
      W p l e rm s m av.toArray below meth c s.heap [] 0 0 (vx_MQ below Qc XC av.toArray s mc ms (AA N0)) (entryFrame m av.toArray maxL)) : vx_Met l y (.code y cc maxL ret :: gw) rm (Pmx D ct ad L φ N0 σ av) Qc XC mc ms (AA N0) := by
  refine vx_ofW (cc := cc) (maxL := maxL) (ret := ret) hy rfl ?_
  intro p e s m args below meth c s₁ B hml hT hv
  obtain ⟨⟨rfl, h2, h3, h4, h5, h6⟩, hZ⟩ := hv
  have hts := atoms_spec (ws := .code y cc maxL ret :: gw) B.pre
  exact body p e s m below meth c ⟨B.exec, B.bytes, hml, B.returns, findClass_of_methodNamed B.named, B.notSynchronized, fun w hw => hts w (List.mem_cons_of_mem _ hw), h4, h5, h6⟩ ⟨hl0, hT, hZ⟩ ⟨h2, va_S.rf, h3⟩
theorem m_ofH {y : MethodName} {rm : Room} {Qc : Array Value → State → Outcome → State → Prop} {mc ms maxL : Nat} {av : List Value} {hh : List (Nat × Nat × Nat × Nat)} (hy : plainName y.cls = true)
    (body : ∀ (p : Program) (e : Env) (s : State) (m : MethodId) (below : List Frame) (meth : Method) (c : Code), Cx p s m meth c av.toArray cc maxL ret y.cls D ct L φ N0 → c.exceptionTable.toList = tableOf hh → Zx N0 s → Hs D ct ad L φ N0 s.heap σ s.heap [] →
      W p l e rm s m av.toArray below meth c s.heap [] 0 0 (MQ below Qc av.toArray s mc ms (AA N0)) (entryFrame m av.toArray maxL)) : Met l y (.codeWith y cc maxL ret hh :: gw) rm (Pmx D ct ad L φ N0 σ av) Qc mc ms (AA N0) := by
  refine MetFree.of_bodyS (code := cc) (maxLocals := maxL) (ret := ret) hy ?_ ?_
  · intro args s m h hn
    obtain ⟨m9, meth, c, hn9, h1, h2, h3, h4, -, h5, h6, -⟩ := Cond.codeWith_spec (atoms_spec (ws := .codeWith y cc maxL ret hh :: gw) h _ List.mem_cons_self)
    cases hn.symm.trans hn9
    exact ⟨meth, c, h1, h2, h3, h4, h5, h6⟩
  · intro p e s m args below meth c s₁ B hml hP _
    obtain ⟨⟨rfl, h2, h3, h4, h5, h6⟩, hZ⟩ := hP
    have hts := atoms_spec (ws := .codeWith y cc maxL ret hh :: gw) B.pre
    have hh0 : s₁.heap = s.heap := by rw [B.state]; rfl
    obtain ⟨t, a1, o, b1, b2, b3⟩ := body p e s m below meth c ⟨B.exec, B.bytes, hml, B.returns, findClass_of_methodNamed B.named, B.notSynchronized, fun w hw => hts w (List.mem_cons_of_mem _ hw), h4, h5, h6⟩ (vx_table (x := y) B (hts _ List.mem_cons_self)) hZ ⟨h2, va_S.rf, h3⟩ s₁ hh0 (Stand.of_body B)
    exact ⟨t, o, a1, b1, b2, b3⟩
/-- a world stays where the heap only grows -/
theorem Rel.grown {H1 : Heap} (h : Rel D ct ad L φ N0 σ H) (hk : ∀ q : Nat, q < H.size → H1[q]? = H[q]?) : Rel D ct ad L φ N0 σ H1 := ⟨h.1.kept (fun k x hx => hk x.1 ((h.1 k x hx).lt)), h.2⟩
theorem r_throw {Qc : Array Value → State → Outcome → State → Prop} {Qx : St → Prop} (X : Cx p s m meth c args cc nL ret RX11 D ct L φ N0) (Y : Yx l c N0 s) (hls : ls.size = nL) (h : Hs D ct ad L φ N0 s.heap σ H locs) (hq : Qx σ)
    (d0 : decode cc pc = .ok (.new 378, 3)) (d3 : decode cc (pc + 3) = .ok (.dup, 1)) (d4 : decode cc (pc + 4) = .ok (.invokespecial 380, 3)) (d7 : decode cc (pc + 7) = .ok (.athrow, 1)) :
    W p l e ({ frames := 6, cells := 1, slots := 6, locals := 81 } : Room) s m args below meth c H locs 0 0 (vx_MQ below Qc (Xq D ct ad L φ N0 Qx) args s 1 6 (AA N0)) (F0 m pc ls []) := by
  obtain ⟨hl0, hT, hZ⟩ := Y
  have hts := X.2.2.2.2.2.2.1
  refine vx_throw0 (own := RX11) (cls := NSE) (names := nmE) (ik := 378) (ic := 380) (A := AA N0) X.1 X.2.1 hl0 X.2.2.2.2.1 nseF nseN (hts _ kw_1553) (hts _ kw_142) (vx_hat (B := [Cond.castable NSE NSE, dRE, dEX, dTH]) (fun w hw => hts w (gw_m (nseW w hw) (List.mem_filter.mp hw).2)) nseB (vx_c (va_Nw.use rfl hZ.2.2.1) (vx_c (va_Nw.use rfl hZ.2.2.2.1) (vx_c (va_Nw.use rfl hZ.2.2.2.2.1) (vx_c (va_Nw.use rfl hZ.2.2.2.2.2) vx_n))))) nseO hZ.1 hZ.2.1 h.2.1 (hls.trans X.2.2.1.symm) d0 d3 d4 d7 (fun x hx => (hT x hx).elim) (by decide) (by decide) (by decide) (by decide) X.2.2.2.2.2.1 (fun t _ h1 h2 => ?_) h.2.1.2.2 (by decide) (by decide)
  exact ⟨σ, hq, ⟨rfl, h.1.grown h2, h.2.2⟩, Nat.le_trans h.2.1.1 h1, fun q a b => (h2 q (Nat.lt_of_lt_of_le a h.2.1.1)).trans (h.2.1.2.1 q a b)⟩
theorem r_Vx (X : Cx p s m meth c args cc nL ret own D ct L φ N0) (hZ : Zx N0 s) (h : Hs D ct ad L φ N0 s.heap σ H locs) {y : MethodName} {b9 : ByteArray} {maxL n index : Nat} {rt : Option FieldType} {rm : Room} {Qc : Array Value → State → Outcome → State → Prop} {XC : String → State → State → Prop} {mc ms : Nat} {As st0 : List Value} {k j ci N : Nat} {C : String} {T : u_T} {fs : List Value} (hM : vx_Met l y (.code y b9 maxL rt :: gw) rm (Pmx D ct ad L φ N0 σ (.ref (ad k j) :: As)) Qc XC mc ms (AA N0)) (hrc : rm.cells = mc) (hrs : rm.slots = ms) (hR : rm.frames + 1 ≤ R.frames ∧ 8 + (maxL + 11) + rm.locals ≤ R.locals) (h1 : Cond.methodLink own index y ∈ gw) (h2 : Cond.instanceMethod y ∈ gw) (h3 : Cond.selects C y y ∈ gw) (h4 : Cond.initialized C ∈ gw) (h5 : Cond.code y b9 maxL rt ∈ gw) (hd : y.cls = C ∧ y.cls ≠ "java/lang/invoke/MethodHandle" ∧ y.cls ≠ "java/lang/invoke/VarHandle" ∧ (parseMethodDescriptor y.desc).map (fun d => d.parameters.length) = some n) (hm : (k, j) ∈ L) (hp : pcell ct ad k j (φ k j) (σ k j) = .inr (ci, fs)) (hc : vwCl[ci]? = some (C, T, N)) (hn : As.length = n) (hls : ls.size = nL) (hst : st0 = As.reverse ++ .ref (ad k j) :: rest) (hW : (rest.map fun v => v.category).sum ≤ 8) (hf : cells + mc ≤ R.cells ∧ slots + ms ≤ R.slots) (hdg : decode cc pc = .ok (.invokevirtual index, 3))   : vx_Run p l e R s m args below meth c H locs cells slots mc ms (F0 m pc ls st0) rest (Qc (Value.ref (ad k j) :: As).toArray) XC (AA N0) := by
  have hG : GoodIn gw (wsV own index C y (.code y b9 maxL rt :: gw)) := gw_good (fun w hw => by
    unfold wsV at hw
    simp only [List.mem_append, List.mem_cons, List.not_mem_nil, or_false] at hw
    rcases hw with (rfl | rfl | rfl | rfl) | rfl | hw <;> assumption)
  refine vx_runV (C := C) (As := As) (rest := rest) ⟨X.1, X.2.1, X.2.2.1, X.2.2.2.2.1, X.2.2.2.2.2.2.1⟩ hM (cwV n X.2.2.2.2.2.2.1 hG rfl hrc hrs hd hR) ⟨Pmx_blind, (by obtain ⟨n0, hn0⟩ := List.getElem?_of_mem hm; have he := pl_at (ct := ct) (ad := ad) (φ := φ) (σ := σ) hn0; rw [hp] at he; exact va_recv X.2.2.2.2.2.2.2.1.1 h.1.1 hc he), fun U hU hW9 => Pmx_of hZ (av := (.ref (ad k j) :: As)) hU hW9 X.2.2.2.2.2.2.2.1 X.2.2.2.2.2.2.2.2.1 X.2.2.2.2.2.2.2.2.2 h⟩ rfl hn hls hst (lv_room hW) hdg hf
theorem k_ix {mc ms : Nat} {a : Array Value} {st0 : List Value} {Qc : Int → St → Prop} {Qx : St → Prop} (h : Hs D ct ad L φ N0 s.heap σ H locs) (hr : vx_Run p l e R s m args below meth c H locs cells slots mc ms (F0 m pc ls st0) rest (Qi D ct ad L φ N0 Qc a) (Xq D ct ad L φ N0 Qx) (AA N0))
    (kx : ∀ (q9 : Addr) (ce : Cell) (σ1 : St) (H1 : Heap) (locs1 : List Loc), Qx σ1 → Hs D ct ad L φ N0 s.heap σ1 H1 locs1 → H1[q9]? = some ce → ce.vm = .none → s.vm.findClass NSE = some ce.cls → vx_W p l e R s m args below meth c H1 locs1 (cells + mc) (slots + ms) Q (F0 m pc ls rest) q9)
    (kk : ∀ (r : Int) (σ1 : St) (H1 : Heap) (locs1 : List Loc), Qc r σ1 → Hs D ct ad L φ N0 s.heap σ1 H1 locs1 → W p l e R s m args below meth c H1 locs1 (cells + mc) (slots + ms) Q (F0 m (pc + 3) ls (.int (iv r) :: rest))) : W p l e R s m args below meth c H locs cells slots Q (F0 m pc ls st0) := by
  refine vx_calli hr h.2.1 (fun _ _ q => q) (fun _ q => q) (fun _ _ q => q) (fun E ce q9 u t H1 locs1 ht hvm hp hB hz hk hS hc hv hcl => ?_) (fun r u t H1 locs1 ht hvm hw hB hz hk hS => ?_)
  · obtain ⟨rfl, hR, hD⟩ := hB
    rw [ht] at hR
    exact kx q9 ce u H1 locs1 hp ⟨hR, hS, hD⟩ hc hv hcl
  · obtain ⟨r', rfl, hq⟩ := hw
    rw [ht] at hB
    exact kk r' u H1 locs1 hq ⟨hB.1, hS, hB.2⟩
theorem r_last (X : Cx p s m meth c args cc nL ret own D ct L φ N0) (h : Hs D ct ad L φ N0 s.heap σ H locs) (hm : (156, 0) ∈ L) {v : Int} (hdg : decode cc pc = .ok (.lastore, 1))
    (kk : ∀ (H1 : Heap) (locs1 : List Loc), Hs D ct ad L φ N0 s.heap (st σ 156 0 0 v) H1 locs1 → W p l e R s m args below meth c H1 locs1 cells slots Q (F0 m (pc + 1) ls rest)) : W p l e R s m args below meth c H locs cells slots Q (F0 m pc ls (.long (iv v).toInt64 :: .int (iv 0) :: .ref (ad 156 0) :: rest)) := by
  obtain ⟨hx, hb, -, -, hown, -, hts, hK, -, -⟩ := X
  obtain ⟨n0, hn⟩ := List.getElem?_of_mem hm
  have he := pl_at (ct := ct) (ad := ad) (φ := φ) (σ := σ) hn
  have he2 : (pl ct ad φ σ L)[n0]? = some (ad 156 0, .inl (ct 7, 1, .inr (.inl (fun i => (iv (σ 156 0 i)).toInt64)))) := he
  refine va_last hx hb hK.1 h.1.1 h.1.2 h.2.1 n0 7 he2 rfl (iv_in (by decide) (Int.le_refl 0) (by decide)) hdg (fun H1 locs1 hP hD hS => ?_)
  rw [iv_clamp ⟨by omega, by omega⟩] at hP hD
  have hE : pcell ct ad 156 0 (φ 156 0) (up (σ 156 0) 0 v) = .inl (ct 7, 1, .inr (.inl (vp_updL (fun i => (iv (σ 156 0 i)).toInt64) (Int.toNat 0) (iv v).toInt64))) := by
    show Sum.inl (ct 7, 1, Sum.inr (Sum.inl (fun i => (iv (up (σ 156 0) 0 v i)).toInt64))) = _
    congr 5
    funext i
    show (iv (if i = 0 then v else σ 156 0 i)).toInt64 = if i = (Int.toNat 0) then (iv v).toInt64 else (iv (σ 156 0 i)).toInt64
    by_cases e : i = 0
    · subst e
      rfl
    · rw [if_neg e, if_neg (by exact e)]
  rw [pl_set h.1.2 hn hE] at hP hD
  exact kk H1 locs1 ⟨⟨hP, hD⟩, hS, Dyn_st h.2.2 rfl⟩
theorem r_lald (X : Cx p s m meth c args cc nL ret own D ct L φ N0) (h : Hs D ct ad L φ N0 s.heap σ H locs) (hm : (156, 0) ∈ L) (hdg : decode cc pc = .ok (.laload, 1))
    (kk : W p l e R s m args below meth c H locs cells slots Q (F0 m (pc + 1) ls (.long (iv (σ 156 0 0)).toInt64 :: rest))) : W p l e R s m args below meth c H locs cells slots Q (F0 m pc ls (.int (iv 0) :: .ref (ad 156 0) :: rest)) := by
  obtain ⟨hx, hb, -, -, hown, -, hts, hK, -, -⟩ := X
  obtain ⟨n0, hn⟩ := List.getElem?_of_mem hm
  have he := pl_at (ct := ct) (ad := ad) (φ := φ) (σ := σ) hn
  have he2 : (pl ct ad φ σ L)[n0]? = some (ad 156 0, .inl (ct 7, 1, .inr (.inl (fun i => (iv (σ 156 0 i)).toInt64)))) := he
  refine va_lald hx hb hK.1 h.1.1 n0 7 he2 rfl (iv_in (by decide) (Int.le_refl 0) (by decide)) hdg ?_
  rw [iv_clamp ⟨by omega, by omega⟩]
  exact kk
end XR
