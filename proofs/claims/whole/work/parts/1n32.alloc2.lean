/-! what is stored of new objects; constructors' calls; ends with a grown world -/
abbrev Wst : Type := St × (Nat → Nat → Nat) × List (Nat × Nat) × (Nat → Nat → Nat → Bool)
def Qvw (D : va_G) (ct : Nat → ClassId) (N0 : Nat) (ad : Nat → Nat → Nat) (L : List (Nat × Nat)) (Qc : St → Prop) : Array Value → State → Outcome → State → Prop := va_Qv (S := Wst) (fun u => Qc u.1 ∧ Ext ad L u.2.1 u.2.2.1 ∧ FullS u.2.2.1 u.2.2.2) (fun u t => Rel D ct u.2.1 u.2.2.1 u.2.2.2 N0 u.1 t.heap ∧ Dyn u.2.2.1 u.2.2.2 u.1) (AA N0)
def Qiw (D : va_G) (ct : Nat → ClassId) (N0 : Nat) (ad : Nat → Nat → Nat) (L : List (Nat × Nat)) (Qc : Int → St → Prop) : Array Value → State → Outcome → State → Prop := va_Qi (S := Wst) (fun r u => ∃ r', r = iv r' ∧ Qc r' u.1 ∧ Ext ad L u.2.1 u.2.2.1 ∧ FullS u.2.2.1 u.2.2.2) (fun u t => Rel D ct u.2.1 u.2.2.1 u.2.2.2 N0 u.1 t.heap ∧ Dyn u.2.2.1 u.2.2.2 u.1) (AA N0)
def flg (k2 k c : Nat) : Prop := (k2 = 4 ∧ k = 77 ∧ c = 4) ∨ (k2 = 10 ∧ k = 78 ∧ c = 10) ∨ (k2 = 1 ∧ k = 79 ∧ c = 1)
theorem Dyn.flag {L : List (Nat × Nat)} {φ : Nat → Nat → Nat → Bool} {σ : St} {k2 k c n : Nat} (hk : flg k2 k c) (hl : σ 50 c n ≠ 0) (h : Dyn L φ σ) : Dyn L φ (st σ k 0 n 1) := by
  obtain ⟨d1, d2, d3, d4, d5, d6, d7⟩ := h
  have uo : ∀ (f : Nat → Int) j, up f n 1 j ≠ 0 → f j ≠ 0 ∨ j = n := by
    intro f j hj
    unfold up at hj
    split at hj
    · right; assumption
    · left; exact hj
  unfold Dyn
  rcases hk with ⟨rfl, rfl, rfl⟩ | ⟨rfl, rfl, rfl⟩ | ⟨rfl, rfl, rfl⟩
  · simp only [st_ne (σ := σ) (k := 77) (j := 0) (i := n) (v := 1) (show ¬ (50 = 77 ∧ 4 = 0) by decide), st_ne (σ := σ) (k := 77) (j := 0) (i := n) (v := 1) (show ¬ (50 = 77 ∧ 10 = 0) by decide), st_ne (σ := σ) (k := 77) (j := 0) (i := n) (v := 1) (show ¬ (50 = 77 ∧ 1 = 0) by decide), st_ne (σ := σ) (k := 77) (j := 0) (i := n) (v := 1) (show ¬ (50 = 77 ∧ 5 = 0) by decide), st_ne (σ := σ) (k := 77) (j := 0) (i := n) (v := 1) (show ¬ (78 = 77 ∧ 0 = 0) by decide), st_ne (σ := σ) (k := 77) (j := 0) (i := n) (v := 1) (show ¬ (79 = 77 ∧ 0 = 0) by decide), st_same]
    exact ⟨d1, d2, d3, fun i hi => (uo _ i hi).elim (d4 i) (fun e => by rw [e]; exact hl), d5, d6, d7⟩
  · simp only [st_ne (σ := σ) (k := 78) (j := 0) (i := n) (v := 1) (show ¬ (50 = 78 ∧ 4 = 0) by decide), st_ne (σ := σ) (k := 78) (j := 0) (i := n) (v := 1) (show ¬ (50 = 78 ∧ 10 = 0) by decide), st_ne (σ := σ) (k := 78) (j := 0) (i := n) (v := 1) (show ¬ (50 = 78 ∧ 1 = 0) by decide), st_ne (σ := σ) (k := 78) (j := 0) (i := n) (v := 1) (show ¬ (50 = 78 ∧ 5 = 0) by decide), st_ne (σ := σ) (k := 78) (j := 0) (i := n) (v := 1) (show ¬ (77 = 78 ∧ 0 = 0) by decide), st_ne (σ := σ) (k := 78) (j := 0) (i := n) (v := 1) (show ¬ (79 = 78 ∧ 0 = 0) by decide), st_same]
    exact ⟨d1, d2, d3, d4, fun i hi => (uo _ i hi).elim (d5 i) (fun e => by rw [e]; exact hl), d6, d7⟩
  · simp only [st_ne (σ := σ) (k := 79) (j := 0) (i := n) (v := 1) (show ¬ (50 = 79 ∧ 4 = 0) by decide), st_ne (σ := σ) (k := 79) (j := 0) (i := n) (v := 1) (show ¬ (50 = 79 ∧ 10 = 0) by decide), st_ne (σ := σ) (k := 79) (j := 0) (i := n) (v := 1) (show ¬ (50 = 79 ∧ 1 = 0) by decide), st_ne (σ := σ) (k := 79) (j := 0) (i := n) (v := 1) (show ¬ (50 = 79 ∧ 5 = 0) by decide), st_ne (σ := σ) (k := 79) (j := 0) (i := n) (v := 1) (show ¬ (77 = 79 ∧ 0 = 0) by decide), st_ne (σ := σ) (k := 79) (j := 0) (i := n) (v := 1) (show ¬ (78 = 79 ∧ 0 = 0) by decide), st_same]
    exact ⟨d1, d2, d3, d4, d5, fun i hi => (uo _ i hi).elim (d6 i) (fun e => by rw [e]; exact hl), d7⟩
section AL2
variable {p : Program} {l : Launch} {e : Env} {R : Room} {s : State} {m : MethodId} {args : Array Value} {below : List Frame} {meth : Method} {c : Code} {H : Heap} {locs : List Loc} {cells slots : Nat} {Q : State → Prop}
variable {cc : ByteArray} {pc : Nat} {ls : Array Slot} {rest : List Value} {D : va_G} {ct : Nat → ClassId} {ad : Nat → Nat → Nat} {L : List (Nat × Nat)} {φ : Nat → Nat → Nat → Bool} {N0 : Nat} {σ : St}
variable {nL : Nat} {ret : Option FieldType} {own : String}
theorem r_aast (X : Cx p s m meth c args cc nL ret own D ct L φ N0) (h : Hs D ct ad L φ N0 s.heap σ H locs) {k k2 c9 n N t : Nat} {r : vw_C} {vs : List Value} (hkk : flg k2 k c9) (hm : (k, 0) ∈ L) (hm2 : (k2, n) ∈ L) (hp : ∀ f : Nat → Int, pcell ct ad k 0 (φ k 0) f = .inl (ct t, N, .inr (.inr (.inr (.inr (fun i => if f i = 0 then none else some (ad k2 i))))))) (ht : (tyl ct)[t]? = some (ct t, .object r.1)) (hp2 : pcell ct ad k2 n (φ k2 n) (σ k2 n) = .inr (k2, vs)) (hc : vwCl[k2]? = some r) (hN : N < 2147483648) {x : Int} (h0 : 0 ≤ x) (h1 : x < N) (hn : x.toNat = n) (hlv : σ 50 c9 n ≠ 0) (hdg : decode cc pc = .ok (.aastore, 1))
    (kk : ∀ (H1 : Heap) (locs1 : List Loc), Hs D ct ad L φ N0 s.heap (st σ k 0 n 1) H1 locs1 → W p l e R s m args below meth c H1 locs1 cells slots Q (F0 m (pc + 1) ls rest)) : W p l e R s m args below meth c H locs cells slots Q (F0 m pc ls (.ref (ad k2 n) :: .int (iv x) :: .ref (ad k 0) :: rest)) := by
  obtain ⟨hx, hb, -, -, hown, -, hts, hK, -, -⟩ := X
  obtain ⟨q0, hq0⟩ := List.getElem?_of_mem hm
  have he0 := pl_at (ct := ct) (ad := ad) (φ := φ) (σ := σ) hq0
  rw [hp] at he0
  obtain ⟨qk, hqk⟩ := List.getElem?_of_mem hm2
  have hek := pl_at (ct := ct) (ad := ad) (φ := φ) (σ := σ) hqk
  rw [hp2] at hek
  refine va_astq hx hb hK.1 h.1.1 h.1.2 h.2.1 q0 t qk k2 (r := r) he0 ht hek hc (iv_in hN h0 h1) hdg (fun H1 locs1 hP hD hS => ?_)
  rw [iv_clamp ⟨by omega, by omega⟩, hn] at hP hD
  have hE : pcell ct ad k 0 (φ k 0) (up (σ k 0) n 1) = .inl (ct t, N, .inr (.inr (.inr (.inr (va_up (fun i => if σ k 0 i = 0 then none else some (ad k2 i)) n (some (ad k2 n))))))) := by
    rw [hp]
    congr 7
    funext i
    unfold up va_up
    by_cases e : i = n
    · simp [e]
    · simp [e]
  rw [pl_set h.1.2 hq0 hE] at hP hD
  exact kk H1 locs1 ⟨⟨hP, hD⟩, hS, Dyn.flag hkk hlv h.2.2⟩
theorem r_I (X : Cx p s m meth c args cc nL ret own D ct L φ N0) (h : Hs D ct ad L φ N0 s.heap σ H locs) {y : MethodName} {b9 : ByteArray} {maxL n index : Nat} {rm : Room} {Qc : Array Value → State → Outcome → State → Prop} {mc ms : Nat} {As st0 : List Value} {k j : Nat} (hM : Met l y (.code y b9 maxL none :: gw) rm (Pm D ct ad L φ N0 σ (.ref (ad k j) :: As)) Qc mc ms (AA N0)) (hrc : rm.cells = mc) (hrs : rm.slots = ms) (hR : rm.frames + 1 ≤ R.frames ∧ 8 + (maxL + 11) + rm.locals ≤ R.locals) (h1 : Cond.methodLink own index y ∈ gw) (h2 : Cond.instanceMethod y ∈ gw) (h4 : Cond.initialized y.cls ∈ gw) (h5 : Cond.code y b9 maxL none ∈ gw) (hnm : y.name = "<init>") (hd : y.cls ≠ "java/lang/invoke/MethodHandle" ∧ y.cls ≠ "java/lang/invoke/VarHandle" ∧ (parseMethodDescriptor y.desc).map (fun d => d.parameters.length) = some n) (hn : As.length = n) (hls : ls.size = nL) (hst : st0 = As.reverse ++ .ref (ad k j) :: rest) (hW : (rest.map fun v => v.category).sum ≤ 8) (hf : cells + mc ≤ R.cells ∧ slots + ms ≤ R.slots) (hdg : decode cc pc = .ok (.invokespecial index, 3)) : va_Run p l e R s m args below meth c H locs cells slots mc ms (F0 m pc ls st0) rest (Qc (Value.ref (ad k j) :: As).toArray) (AA N0) := by
  have hG : GoodIn gw (.code y b9 maxL none :: gw) := gw_good (fun w hw => by
    rcases List.mem_cons.mp hw with rfl | hw <;> assumption)
  have hts := X.2.2.2.2.2.2.1
  exact va_runI (As := As) (rest := rest) ⟨X.1, X.2.1, X.2.2.1, X.2.2.2.2.1, X.2.2.2.2.2.2.1⟩ hM ⟨callB_of n hts hG rfl hrc hrs (hts _ h4) (hts _ h1) hd hR, hnm, hts _ h2⟩ ⟨Pm_blind, fun U hU hW9 => Pm_of (av := (.ref (ad k j) :: As)) hU hW9 X.2.2.2.2.2.2.2.1 X.2.2.2.2.2.2.2.2.1 X.2.2.2.2.2.2.2.2.2 h⟩ rfl hn hls hst (lv_room hW) hdg hf
theorem k_vw {mc ms : Nat} {a : Array Value} {st0 : List Value} {Qc : St → Prop} (h : Hs D ct ad L φ N0 s.heap σ H locs) (hr : va_Run p l e R s m args below meth c H locs cells slots mc ms (F0 m pc ls st0) rest (Qvw D ct N0 ad L Qc a) (AA N0))
    (kk : ∀ (ad1 : Nat → Nat → Nat) (L1 : List (Nat × Nat)) (φ1 : Nat → Nat → Nat → Bool) (σ1 : St) (H1 : Heap) (locs1 : List Loc), Qc σ1 → Ext ad L ad1 L1 → FullS L1 φ1 → Hs D ct ad1 L1 φ1 N0 s.heap σ1 H1 locs1 → W p l e R s m args below meth c H1 locs1 (cells + mc) (slots + ms) Q (F0 m (pc + 3) ls rest)) : W p l e R s m args below meth c H locs cells slots Q (F0 m pc ls st0) := by
  refine va_callv hr h.2.1 (fun _ _ q => q) (fun _ q => q) (fun u t H1 locs1 ht hvm hw hB hz hk hS => ?_)
  obtain ⟨u1, u2, u3, u4⟩ := u
  rw [ht] at hB
  exact kk u2 u3 u4 u1 H1 locs1 hw.1 hw.2.1 hw.2.2 ⟨hB.1, hS, hB.2⟩
theorem k_iw {mc ms : Nat} {a : Array Value} {st0 : List Value} {Qc : Int → St → Prop} (h : Hs D ct ad L φ N0 s.heap σ H locs) (hr : va_Run p l e R s m args below meth c H locs cells slots mc ms (F0 m pc ls st0) rest (Qiw D ct N0 ad L Qc a) (AA N0))
    (kk : ∀ (r : Int) (ad1 : Nat → Nat → Nat) (L1 : List (Nat × Nat)) (φ1 : Nat → Nat → Nat → Bool) (σ1 : St) (H1 : Heap) (locs1 : List Loc), Qc r σ1 → Ext ad L ad1 L1 → FullS L1 φ1 → Hs D ct ad1 L1 φ1 N0 s.heap σ1 H1 locs1 → W p l e R s m args below meth c H1 locs1 (cells + mc) (slots + ms) Q (F0 m (pc + 3) ls (.int (iv r) :: rest))) : W p l e R s m args below meth c H locs cells slots Q (F0 m pc ls st0) := by
  refine va_calli hr h.2.1 (fun _ _ q => q) (fun _ q => q) (fun r u t H1 locs1 ht hvm hw hB hz hk hS => ?_)
  obtain ⟨r', rfl, hq, hE, hFu⟩ := hw
  obtain ⟨u1, u2, u3, u4⟩ := u
  rw [ht] at hB
  exact kk r' u2 u3 u4 u1 H1 locs1 hq hE hFu ⟨hB.1, hS, hB.2⟩
theorem k_irw {Qc : Int → St → Prop} {ty : FieldType} {ad0 : Nat → Nat → Nat} {L0 : List (Nat × Nat)} (X : Cx p s m meth c args cc nL (some ty) own D ct L φ N0) (hE : Ext ad0 L0 ad L) {v : Int} (hn : narrow ty (.int (iv v)) = .int (iv v)) (h : Hs D ct ad L φ N0 s.heap σ H locs) (hq : Qc v σ) (hdg : decode cc pc = .ok (.ireturn, 1)) : W p l e R s m args below meth c H locs cells slots (MQ below (Qiw D ct N0 ad0 L0 Qc) args s cells slots (AA N0)) (F0 m pc ls [.int (iv v)]) := by
  refine W.zret X.1 X.2.1 X.2.2.2.1 hn (fun t ht hW => ?_) h.2.1.2.2 hdg X.2.2.2.2.2.1
  exact ⟨⟨iv v, (σ, ad, L, φ), rfl, ⟨v, rfl, hq, hE, X.2.2.2.2.2.2.2.2.1⟩, ⟨by rw [ht]; exact h.1, h.2.2⟩⟩, h.2.1.F ht⟩
theorem k_vrw {Qc : St → Prop} {ad0 : Nat → Nat → Nat} {L0 : List (Nat × Nat)} (X : Cx p s m meth c args cc nL none own D ct L φ N0) (hE : Ext ad0 L0 ad L) (h : Hs D ct ad L φ N0 s.heap σ H locs) (hq : Qc σ) (hdg : decode cc pc = .ok (.return_, 1)) : W p l e R s m args below meth c H locs cells slots (MQ below (Qvw D ct N0 ad0 L0 Qc) args s cells slots (AA N0)) (F0 m pc ls []) := by
  refine W.vret X.1 X.2.1 X.2.2.2.1 (fun t ht hW => ?_) h.2.1.2.2 hdg X.2.2.2.2.2.1
  exact ⟨⟨(σ, ad, L, φ), rfl, ⟨hq, hE, X.2.2.2.2.2.2.2.2.1⟩, ⟨by rw [ht]; exact h.1, h.2.2⟩⟩, h.2.1.F ht⟩
end AL2
