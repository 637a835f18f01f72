/-! more rows -/
section MR
variable {p : Program} {l : Launch} {e : Env} {R : Room} {s : State} {m : MethodId} {args : Array Value} {below : List Frame} {meth : Method} {c : Code} {H : Heap} {locs : List Loc} {cells slots : Nat} {Q : State → Prop}
variable {cc : ByteArray} {pc : Nat} {ls : Array Slot} {rest : List Value} {D : va_G} {ct : Nat → ClassId} {ad : Nat → Nat → Nat} {L : List (Nat × Nat)} {φ : Nat → Nat → Nat → Bool} {N0 : Nat} {σ : St}
variable {nL : Nat} {ret : Option FieldType} {own : String}
theorem j_bind {x : Int} (k : ∀ v, v = x → W p l e R s m args below meth c H locs cells slots Q (F0 m pc ls (.int (iv v) :: rest))) : W p l e R s m args below meth c H locs cells slots Q (F0 m pc ls (.int (iv x) :: rest)) := k x rfl
theorem j_tin (X : Cx p s m meth c args cc nL ret own D ct L φ N0) {x v lo hi dflt off : Int} {offs : Array Int} {len tgt : Nat} (hx : inR x) (hv : x = v) (hdg : decode cc pc = .ok (.tableswitch dflt lo hi offs, len)) (h1 : ¬ v < lo) (h2 : ¬ hi < v) (ho : offs[(v - lo).toNat]? = some off) (ht : (pc : Int) + off = (tgt : Int)) (k : W p l e R s m args below meth c H locs cells slots Q (F0 m tgt ls rest)) : W p l e R s m args below meth c H locs cells slots Q (F0 m pc ls (.int (iv x) :: rest)) := by
  subst hv
  have e := iv_toInt hx
  exact lv_tableIn X.1 X.2.1 hdg (by rw [e]; exact h1) (by rw [e]; exact h2) (by rw [e]; exact ho) ht k
theorem j_tout (X : Cx p s m meth c args cc nL ret own D ct L φ N0) {x lo hi dflt : Int} {offs : Array Int} {len tgt : Nat} (hx : inR x) (h : x < lo ∨ hi < x) (hdg : decode cc pc = .ok (.tableswitch dflt lo hi offs, len)) (ht : (pc : Int) + dflt = (tgt : Int)) (k : W p l e R s m args below meth c H locs cells slots Q (F0 m tgt ls rest)) : W p l e R s m args below meth c H locs cells slots Q (F0 m pc ls (.int (iv x) :: rest)) := by
  have e := iv_toInt hx
  exact lv_tableOut X.1 X.2.1 hdg (by rw [e]; exact h) ht k
theorem j_lk (X : Cx p s m meth c args cc nL ret own D ct L φ N0) {x dflt off : Int} {ps : Array (Int × Int)} {len tgt : Nat} (hx : inR x) (hdg : decode cc pc = .ok (.lookupswitch dflt ps, len)) (hp : (ps.toList.zip (ps.toList.drop 1)).all (fun (a, next) => a.1 < next.1) = true) (ho : Op.lookupswitch.offset ps.toList dflt x = off) (ht : (pc : Int) + off = (tgt : Int)) (k : W p l e R s m args below meth c H locs cells slots Q (F0 m tgt ls rest)) : W p l e R s m args below meth c H locs cells slots Q (F0 m pc ls (.int (iv x) :: rest)) := by
  have e := iv_toInt hx
  exact lv_lookup X.1 X.2.1 hdg hp (by rw [e]; exact ho) ht k
theorem r_getR (X : Cx p s m meth c args cc nL ret own D ct L φ N0) {C : String} {T : u_T} {N ci index : Nat} (hin : ∀ w ∈ u_ws C T N, w ∈ gw) (h : Hs D ct ad L φ N0 s.heap σ H locs) {k j k2 j2 : Nat} (hm : (k, j) ∈ L) {fs : List Value} (hp : pcell ct ad k j (φ k j) (σ k j) = .inr (ci, fs)) (hc : vwCl[ci]? = some (C, T, N)) (i : Nat) (hi : i < N) (hlink : Cond.fieldLink own index (T i).1 (T i).2.1 (T i).2.2.1 ∈ gw) (hv : fs[i]? = some (rv (φ k j i) (ad k2 j2))) (hφ : φ k j i = true) (hdg : decode cc pc = .ok (.getfield index, 3))
    (kk : W p l e R s m args below meth c H locs cells slots Q (F0 m (pc + 3) ls (.ref (ad k2 j2) :: rest))) : W p l e R s m args below meth c H locs cells slots Q (F0 m pc ls (.ref (ad k j) :: rest)) := r_get X hin h hm hp hc i hi hlink (hv.trans (congrArg some (rv_t hφ))) hdg kk
theorem r_getRN (X : Cx p s m meth c args cc nL ret own D ct L φ N0) {C host : String} {T : u_T} {N ci index : Nat} (hin : ∀ w ∈ u_ws C T N, w ∈ gw) (h : Hs D ct ad L φ N0 s.heap σ H locs) {k j k2 j2 : Nat} (hm : (k, j) ∈ L) {fs : List Value} (hp : pcell ct ad k j (φ k j) (σ k j) = .inr (ci, fs)) (hc : vwCl[ci]? = some (C, T, N)) (i : Nat) (hi : i < N) (hlink : Cond.fieldLinkNest own index (T i).1 (T i).2.1 (T i).2.2.1 host ∈ lw_tbl) (hv : fs[i]? = some (rv (φ k j i) (ad k2 j2))) (hφ : φ k j i = true) (hdg : decode cc pc = .ok (.getfield index, 3))
    (kk : W p l e R s m args below meth c H locs cells slots Q (F0 m (pc + 3) ls (.ref (ad k2 j2) :: rest))) : W p l e R s m args below meth c H locs cells slots Q (F0 m pc ls (.ref (ad k j) :: rest)) := r_getN X hin h hm hp hc i hi hlink (hv.trans (congrArg some (rv_t hφ))) hdg kk
theorem j_ldc_w (X : Cx p s m meth c args cc nL ret own D ct L φ N0) {n : Int} {v : Int32} {index : Nat} (hw : Cond.constant own index v ∈ gw) (hv : v = iv n) (hdg : decode cc pc = .ok (.ldc_w index, 3)) (k : W p l e R s m args below meth c H locs cells slots Q (F0 m (pc + 3) ls (.int (iv n) :: rest))) : W p l e R s m args below meth c H locs cells slots Q (F0 m pc ls rest) := by
  subst hv
  exact lv_ldcw X.1 X.2.1 X.2.2.2.2.1 (X.2.2.2.2.2.2.1 _ hw) hdg k
theorem nb_n {v : Int} (h : v = 0 ∨ v = 1) : narrow .boolean (.int (iv v)) = .int (iv v) := by rcases h with rfl | rfl <;> rfl
theorem nb_f {v : Int} (h : v = 0 ∨ v = 1) : fits .boolean (.int (iv v)) = true := by rcases h with rfl | rfl <;> rfl
theorem nb_v {v : Int} (h : v = 0 ∨ v = 1) : vp_nar .boolean (iv v) = iv v := by rcases h with rfl | rfl <;> decide
theorem nb_b (x : Int) : vp_nar .byte (iv (i_i2b x)) = iv (i_i2b x) := by
  unfold i_i2b
  rw [iv_of]
  exact pk_vb _
/-- a row of references that may be null, by its flags -/
theorem r_aaD (X : Cx p s m meth c args cc nL ret own D ct L φ N0) (h : Hs D ct ad L φ N0 s.heap σ H locs) {k j n k2 t : Nat} {C : String} (hm : (k, j) ∈ L) (hp : pcell ct ad k j (φ k j) (σ k j) = .inl (ct t, n, .inr (.inr (.inr (.inr (fun i => if σ k j i = 0 then none else some (ad k2 i))))))) (ht : (tyl ct)[t]? = some (ct t, .object C)) (hn9 : n < 2147483648) {x : Int} (h0 : 0 ≤ x) (h1 : x < n) (hdg : decode cc pc = .ok (.aaload, 1))
    (kn : σ k j x.toNat = 0 → W p l e R s m args below meth c H locs cells slots Q (F0 m (pc + 1) ls (.null :: rest))) (ks : σ k j x.toNat ≠ 0 → W p l e R s m args below meth c H locs cells slots Q (F0 m (pc + 1) ls (.ref (ad k2 x.toNat) :: rest))) : W p l e R s m args below meth c H locs cells slots Q (F0 m pc ls (.int (iv x) :: .ref (ad k j) :: rest)) := by
  obtain ⟨hx, hb, -, -, hown, -, hts, hK, -, -⟩ := X
  obtain ⟨n0, hn⟩ := List.getElem?_of_mem hm
  have he := pl_at (ct := ct) (ad := ad) (φ := φ) (σ := σ) hn
  rw [hp] at he
  refine va_aldq hx hb hK.1 h.1.1 n0 t he ht (iv_in hn9 h0 h1) hdg ?_
  rw [iv_clamp ⟨by omega, by omega⟩]
  by_cases hz : σ k j x.toNat = 0
  · rw [if_pos hz]
    exact kn hz
  · rw [if_neg hz]
    exact ks hz
theorem r_aaS (X : Cx p s m meth c args cc nL ret own D ct L φ N0) (h : Hs D ct ad L φ N0 s.heap σ H locs) {k j n k2 : Nat} (hm : (k, j) ∈ L) (hp : pcell ct ad k j (φ k j) (σ k j) = .inl (ct 6, n, .inr (.inr (.inr (.inr (fun i => if φ k j i = true then some (ad k2 i) else none)))))) {x : Int} (hφ : φ k j x.toNat = true) (hn9 : n < 2147483648) (h0 : 0 ≤ x) (h1 : x < n) (hdg : decode cc pc = .ok (.aaload, 1))
    (kk : W p l e R s m args below meth c H locs cells slots Q (F0 m (pc + 1) ls (.ref (ad k2 x.toNat) :: rest))) : W p l e R s m args below meth c H locs cells slots Q (F0 m pc ls (.int (iv x) :: .ref (ad k j) :: rest)) := by
  obtain ⟨hx, hb, -, -, hown, -, hts, hK, -, -⟩ := X
  obtain ⟨n0, hn⟩ := List.getElem?_of_mem hm
  have he := pl_at (ct := ct) (ad := ad) (φ := φ) (σ := σ) hn
  rw [hp] at he
  have hin := iv_in (n := n) hn9 h0 h1
  have hlt : (iv x).toNatClampNeg < n := Nat.not_le.mp fun q => hin (Or.inr q)
  refine W.aald (v := .ref (ad k2 x.toNat)) (ty := .array .int) hx hb (h.1.1 n0 _ he) ((hK.1.2 6 _ rfl).1 n (fun j9 => va_rf (if φ k j j9 = true then some (ad k2 j9) else none))) rfl (fun q => by cases q) (by show ¬ (iv x < 0 ∨ (arrV _ _ _).slots.size ≤ _); rw [arrV_size]; exact hin) ?_ rfl rfl hdg kk
  show (arrV _ _ _).slots[_]? = _
  rw [arrV_read _ _ hlt, iv_clamp ⟨by omega, by omega⟩]
  show some (va_rf (if φ k j x.toNat = true then some (ad k2 x.toNat) else none)) = _
  rw [if_pos hφ]
  rfl
theorem sta_ne {σ : St} {k j k' j' : Nat} {g : Nat → Int} (h : ¬ (k' = k ∧ j' = j)) : sta σ k j g k' j' = σ k' j' := if_neg h
theorem sta_same {σ : St} {k j : Nat} {g : Nat → Int} : sta σ k j g k j = g := if_pos ⟨rfl, rfl⟩
theorem Dyn_sta (h : Dyn L φ σ) {k j : Nat} {g : Nat → Int} (hk : plain k = true) : Dyn L φ (sta σ k j g) := by
  have h1 : ∀ q, plain q = false → ∀ a, sta σ k j g q a = σ q a := fun q hq a => sta_ne (fun e => by rw [e.1, hk] at hq; cases hq)
  unfold Dyn
  simp only [h1 77 rfl, h1 78 rfl, h1 79 rfl, h1 50 rfl]
  exact h
theorem pl_sta {A : Nat → Prop} {n k j : Nat} {g : Nat → Int} {E : va_E} (hD : va_D A (pl ct ad φ σ L)) (hn : L[n]? = some (k, j)) (hE : pcell ct ad k j (φ k j) g = E) : (pl ct ad φ σ L).set n (ad k j, E) = pl ct ad φ (sta σ k j g) L := by
  apply List.ext_getElem?
  intro m
  by_cases hmn : n = m
  · subst hmn
    have hlt : n < (pl ct ad φ σ L).length := (List.getElem?_eq_some_iff.mp (pl_at (ct := ct) (ad := ad) (φ := φ) (σ := σ) hn)).1
    rw [List.getElem?_set_self hlt, pl_at hn, sta_same, hE]
  · rw [List.getElem?_set_ne hmn]
    cases hq : L[m]? with
    | none => simp only [pl, List.getElem?_map, hq, Option.map_none]
    | some q =>
      obtain ⟨k', j'⟩ := q
      rw [pl_at hq, pl_at hq, sta_ne (fun e => hmn (hD.1 n m _ _ (pl_at hn) (pl_at hq) (by rw [e.1, e.2])))]
/-- System.arraycopy of the first n ints of one row into another -/
theorem r_copy (X : Cx p s m meth c args cc nL ret own D ct L φ N0) (h : Hs D ct ad L φ N0 s.heap σ H locs) {index k1 j1 k2 j2 n1 n2 : Nat} (hm1 : (k1, j1) ∈ L) (hm2 : (k2, j2) ∈ L) (hp1 : pcell ct ad k1 j1 (φ k1 j1) (σ k1 j1) = .inl (ct 0, n1, .inl (fun i => iv (σ k1 j1 i)))) (hp2 : ∀ f : Nat → Int, pcell ct ad k2 j2 (φ k2 j2) f = .inl (ct 0, n2, .inl (fun i => iv (f i)))) (hl1 : Cond.methodLink own index arraycopyName ∈ gw) (hl2 : Cond.native arraycopyName ∈ gw) (hl3 : Cond.static arraycopyName ∈ gw) (hl4 : Cond.initialized "java/lang/System" ∈ gw) {x : Int} (h0 : 0 ≤ x) (h1 : x ≤ n1) (h2 : x ≤ n2) (hn1 : n1 < 2147483648) (hpl : plain k2 = true) (hls : ls.size = nL) (hframes : 1 ≤ R.frames) (hlocals : (rest.map fun v => v.category).sum + (nativeFrameWords "java/lang/System" "arraycopy" 5 + 11) ≤ R.locals) (hdg : decode cc pc = .ok (.invokestatic index, 3))
    (kk : ∀ (H1 : Heap) (locs1 : List Loc), Hs D ct ad L φ N0 s.heap (sta σ k2 j2 (cpf (σ k1 j1) (σ k2 j2) x.toNat)) H1 locs1 → W p l e R s m args below meth c H1 locs1 cells slots Q (F0 m (pc + 3) ls rest)) : W p l e R s m args below meth c H locs cells slots Q (F0 m pc ls (.int (iv x) :: .int (iv 0) :: .ref (ad k2 j2) :: .int (iv 0) :: .ref (ad k1 j1) :: rest)) := by
  obtain ⟨hx, hb, hml, -, hown, -, hts, hK, -, -⟩ := X
  obtain ⟨q0, hq0⟩ := List.getElem?_of_mem hm1
  have he0 := pl_at (ct := ct) (ad := ad) (φ := φ) (σ := σ) hq0
  rw [hp1] at he0
  obtain ⟨q1, hq1⟩ := List.getElem?_of_mem hm2
  have he1 := pl_at (ct := ct) (ad := ad) (φ := φ) (σ := σ) hq1
  rw [hp2] at he1
  have hR : inR x := ⟨by omega, by omega⟩
  have hc : (iv x).toNatClampNeg = x.toNat := iv_clamp hR
  have hz : (iv 0).toNatClampNeg = 0 := rfl
  refine va_copyi hx hb (hml.trans hls.symm) hown (hts _ hl1) (hts _ hl2) (hts _ hl3) (hts _ hl4) hK.1 h.1.1 h.1.2 h.2.1 q0 q1 0 0 (ty := .int) he0 he1 rfl rfl rfl (by decide) (by decide) (by have := (iv_lt hR (y := 0) ⟨by decide, by decide⟩); intro q; exact absurd (this.mp q) (by omega)) (by rw [hc, hz]; omega) (by rw [hc, hz]; omega) (fun i hi => rfl) hframes hlocals hdg (fun H1 locs1 hP hD hS => ?_)
  rw [hc, hz] at hP hD
  have hE : pcell ct ad k2 j2 (φ k2 j2) (cpf (σ k1 j1) (σ k2 j2) x.toNat) = .inl (ct 0, n2, .inl (va_cpy (fun i => iv (σ k1 j1 i)) (fun i => iv (σ k2 j2 i)) 0 0 x.toNat)) := by
    rw [hp2]
    congr 4
    funext i
    unfold cpf va_cpy
    by_cases hi : i < x.toNat
    · simp [hi]
    · simp [hi]
  rw [pl_sta h.1.2 hq1 hE] at hP hD
  exact kk H1 locs1 ⟨⟨hP, hD⟩, hS, Dyn_sta h.2.2 hpl⟩
theorem k_o {mc ms k9 : Nat} {a : Array Value} {st0 : List Value} {Qc : Option Nat → St → Prop} (h : Hs D ct ad L φ N0 s.heap σ H locs) (hr : va_Run p l e R s m args below meth c H locs cells slots mc ms (F0 m pc ls st0) rest (Qo D ct ad L φ N0 k9 Qc a) (AA N0))
    (kk : ∀ (r : Option Nat) (σ1 : St) (H1 : Heap) (locs1 : List Loc), Qc r σ1 → Hs D ct ad L φ N0 s.heap σ1 H1 locs1 → W p l e R s m args below meth c H1 locs1 (cells + mc) (slots + ms) Q (F0 m (pc + 3) ls (va_rf (Option.map (ad k9) r) :: rest))) : W p l e R s m args below meth c H locs cells slots Q (F0 m pc ls st0) := by
  refine va_callq hr h.2.1 (fun _ _ q => q) (fun _ q => q) (fun r u t H1 locs1 ht hvm hw hB hz hk hS => ?_)
  obtain ⟨r', rfl, hq⟩ := hw
  rw [ht] at hB
  exact kk r' u H1 locs1 hq ⟨hB.1, hS, hB.2⟩
theorem k_on {Qc : Option Nat → St → Prop} {k9 : Nat} {cn : String} (X : Cx p s m meth c args cc nL (some (.object cn)) own D ct L φ N0) (h : Hs D ct ad L φ N0 s.heap σ H locs) (hq : Qc none σ) (hdg : decode cc pc = .ok (.areturn, 1)) : W p l e R s m args below meth c H locs cells slots (MQ below (Qo D ct ad L φ N0 k9 Qc) args s cells slots (AA N0)) (F0 m pc ls [.null]) := by
  refine W.aret X.1 X.2.1 X.2.2.2.1 (Or.inl ⟨cn, rfl⟩) (Or.inl rfl) (fun t ht hW => ?_) h.2.1.2.2 hdg X.2.2.2.2.2.1
  exact ⟨⟨none, σ, rfl, ⟨none, rfl, hq⟩, ⟨by rw [ht]; exact h.1, h.2.2⟩⟩, h.2.1.F ht⟩
theorem k_os {Qc : Option Nat → St → Prop} {k9 j9 : Nat} {cn : String} (X : Cx p s m meth c args cc nL (some (.object cn)) own D ct L φ N0) (h : Hs D ct ad L φ N0 s.heap σ H locs) (hq : Qc (some j9) σ) (hdg : decode cc pc = .ok (.areturn, 1)) : W p l e R s m args below meth c H locs cells slots (MQ below (Qo D ct ad L φ N0 k9 Qc) args s cells slots (AA N0)) (F0 m pc ls [.ref (ad k9 j9)]) := by
  refine W.aret X.1 X.2.1 X.2.2.2.1 (Or.inl ⟨cn, rfl⟩) (Or.inr ⟨_, rfl⟩) (fun t ht hW => ?_) h.2.1.2.2 hdg X.2.2.2.2.2.1
  exact ⟨⟨some (ad k9 j9), σ, rfl, ⟨some j9, rfl, hq⟩, ⟨by rw [ht]; exact h.1, h.2.2⟩⟩, h.2.1.F ht⟩
theorem r_gets (X : Cx p s m meth c args cc nL ret own D ct L φ N0) (h : Hs D ct ad L φ N0 s.heap σ H locs) {C n d : String} {v : Value} {index : Nat} (hZ : va_Z C n d v (AA N0) s s.heap) (hlink : Cond.fieldLink own index C n d ∈ gw) (hdg : decode cc pc = .ok (.getstatic index, 3)) (kk : W p l e R s m args below meth c H locs cells slots Q (F0 m (pc + 3) ls (v :: rest))) : W p l e R s m args below meth c H locs cells slots Q (F0 m pc ls rest) :=
  va_gets X.1 X.2.1 hZ h.2.1 X.2.2.2.2.1 (X.2.2.2.2.2.2.1 _ hlink) (fun _ q => q) hdg kk
theorem r_ti (X : Cx p s m meth c args cc nL ret own D ct L φ N0) (h : Hs D ct ad L φ N0 s.heap σ H locs) {t N : Nat} {f : Nat → Value} {li : List Int} (hT : va_T .int t N f (AA N0) s s.heap) (hN : N < 2147483648) {x : Int} (h0 : 0 ≤ x) (h1 : x < N) (hv : ∀ n, n < N → f n = .int (iv (li.getD n 0))) (hdg : decode cc pc = .ok (.iaload, 1)) (kk : W p l e R s m args below meth c H locs cells slots Q (F0 m (pc + 1) ls (.int (iv (tbI li x)) :: rest))) : W p l e R s m args below meth c H locs cells slots Q (F0 m pc ls (.int (iv x) :: .ref t :: rest)) :=
  va_ti X.1 X.2.1 hT h.2.1 (iv_in hN h0 h1) (by rw [iv_clamp ⟨by omega, by omega⟩]; exact hv _ (by omega)) hdg kk
theorem tb_1 : ∀ n, n < 3 → (fun j => Value.int (([0, 5, 3] : List Int32).getD j 0)) n = Value.int (iv (([0, 5, 3] : List Int).getD n 0)) := by
  intro n hn
  rcases (show n = 0 ∨ n = 1 ∨ n = 2 by omega) with rfl | rfl | rfl <;> rfl
theorem tb_2 : ∀ n, n < 4 → (fun j => Value.int (([-1, 2, 50, 5] : List Int32).getD j 0)) n = Value.int (iv (([-1, 2, 50, 5] : List Int).getD n 0)) := by
  intro n hn
  rcases (show n = 0 ∨ n = 1 ∨ n = 2 ∨ n = 3 by omega) with rfl | rfl | rfl | rfl <;> rfl
theorem nc_n {v : Int} (h0 : 0 ≤ v) (h1 : v < 65536) : narrow .char (.int (iv v)) = .int (iv v) := by
  have e : iv v = nI v.toNat := by
    unfold iv nI
    rw [← Int32.toInt_inj, Int32.toInt_ofInt]
    rw [show (Int32.ofNat v.toNat) = Int32.ofInt (v.toNat : Int) from rfl, Int32.toInt_ofInt, Int.toNat_of_nonneg h0]
  rw [e]
  exact (pk_charN (by omega)).1
theorem r_ldcS (X : Cx p s m meth c args cc nL ret own D ct L φ N0) {tx : String} {index q : Nat} (hZ : vk_R own index tx q s) (hdg : decode cc pc = .ok (.ldc index, 2)) (kk : W p l e R s m args below meth c H locs cells slots Q (F0 m (pc + 2) ls (.ref q :: rest))) : W p l e R s m args below meth c H locs cells slots Q (F0 m pc ls rest) :=
  va_ldcS X.1 X.2.1 X.2.2.2.2.1 hZ hdg kk
theorem r_ldcwS (X : Cx p s m meth c args cc nL ret own D ct L φ N0) {tx : String} {index q : Nat} (hZ : vk_R own index tx q s) (hdg : decode cc pc = .ok (.ldc_w index, 3)) (kk : W p l e R s m args below meth c H locs cells slots Q (F0 m (pc + 3) ls (.ref q :: rest))) : W p l e R s m args below meth c H locs cells slots Q (F0 m pc ls rest) := by
  intro T hT Y
  obtain ⟨t, a1, b1⟩ := kk T hT Y
  refine ⟨t, ?_, b1⟩
  obtain ⟨k, cf, i, a', hk, hcf, hcp, -, hr, hev'⟩ := Cond.stringRef_spec X.2.2.2.2.1 hZ.1
  cases hZ.2.symm.trans hev'
  obtain ⟨k', hk', he⟩ := Y.warmed.alike.2.2 _ _ hk
  have hr' : k'.resolved[index]? = some (some (.string q)) := by
    rcases Y.warmed.entry hk hk' index with h | ⟨h, -⟩
    · rw [h]; exact hr
    · rw [hr] at h; cases h
  have hx := X.1
  have hb := X.2.1
  have hdg' : decode c.code pc = .ok (.ldc_w index, 3) := by rw [hb]; exact hdg
  jvm_step Y.here [hx, hdg', ldc_w.wp_string (s := T) (f := F0 m pc ls rest) Y.here.top hk' (by rw [he]; exact hcf) hcp hr']
  exact a1
theorem r_sget (X : Cx p s m meth c args cc nL ret own D ct L φ N0) (h : Hs D ct ad L φ N0 s.heap σ H locs) {n d : String} {index q : Nat} {v : Value} (hE : va_OF "java/lang/String" n d v q (AA N0) s s.heap) (hlink : Cond.fieldLink own index "java/lang/String" n d ∈ gw) (hdg : decode cc pc = .ok (.getfield index, 3)) (kk : W p l e R s m args below meth c H locs cells slots Q (F0 m (pc + 3) ls (v :: rest))) : W p l e R s m args below meth c H locs cells slots Q (F0 m pc ls (.ref q :: rest)) :=
  vk_getf X.1 X.2.1 hE h.2.1 X.2.2.2.2.1 (X.2.2.2.2.2.2.1 _ hlink) (fun _ q => q) hdg kk
theorem r_slen (X : Cx p s m meth c args cc nL ret own D ct L φ N0) (h : Hs D ct ad L φ N0 s.heap σ H locs) {i : Nat} (hi : i < 27) (hdg : decode cc pc = .ok (.arraylength, 1)) (kk : W p l e R s m args below meth c H locs cells slots Q (F0 m (pc + 1) ls (.int (iv (slen i)) :: rest))) : W p l e R s m args below meth c H locs cells slots Q (F0 m pc ls (.ref (ct (3000 + i)) :: rest)) :=
  va_tlen X.1 X.2.1 ((X.2.2.2.2.2.2.2.1.2.2.2.2.2.1.1 i hi).2.2.2) h.2.1 rfl hdg kk
theorem strL_lt : ∀ i, strL.getD i 0 < 2147483648 := by
  intro i
  by_cases h : i < strL.length
  · have : ∀ x ∈ strL, x < 2147483648 := by decide
    rw [List.getD_eq_getElem?_getD, List.getElem?_eq_getElem h]
    exact this _ (List.getElem_mem h)
  · rw [List.getD_eq_getElem?_getD, List.getElem?_eq_none (by omega)]
    decide
theorem r_sb (X : Cx p s m meth c args cc nL ret own D ct L φ N0) (h : Hs D ct ad L φ N0 s.heap σ H locs) {i : Nat} (hi : i < 27) {x : Int} (h0 : 0 ≤ x) (h1 : x < slen i) (hdg : decode cc pc = .ok (.baload, 1)) (kk : W p l e R s m args below meth c H locs cells slots Q (F0 m (pc + 1) ls (.int (iv (sbyt i x.toNat)) :: rest))) : W p l e R s m args below meth c H locs cells slots Q (F0 m pc ls (.int (iv x) :: .ref (ct (3000 + i)) :: rest)) := by
  have hl := strL_lt i
  have h2 : x < (strL.getD i 0 : Nat) := h1
  exact va_tb X.1 X.2.1 ((X.2.2.2.2.2.2.2.1.2.2.2.2.2.1.1 i hi).2.2.2) h.2.1 (iv_in hl h0 h2) (by rw [iv_clamp ⟨by omega, by omega⟩]; show _ = Value.int (iv (Int32.toInt _)); rw [iv_of]) hdg kk

def Qs (D : va_G) (ct : Nat → ClassId) (ad : Nat → Nat → Nat) (L : List (Nat × Nat)) (φ : Nat → Nat → Nat → Bool) (N0 : Nat) (Qc : Nat → St → Prop) : Array Value → State → Outcome → State → Prop := va_Qr (S := Nat × St) (fun u => Qc u.1 u.2) (fun u a t => a = ct (2000 + u.1) ∧ Rel D ct ad L φ N0 u.2 t.heap ∧ Dyn L φ u.2) (AA N0)
theorem k_s {mc ms : Nat} {a : Array Value} {st0 : List Value} {Qc : Nat → St → Prop} (h : Hs D ct ad L φ N0 s.heap σ H locs) (hr : va_Run p l e R s m args below meth c H locs cells slots mc ms (F0 m pc ls st0) rest (Qs D ct ad L φ N0 Qc a) (AA N0))
    (kk : ∀ (r : Nat) (σ1 : St) (H1 : Heap) (locs1 : List Loc), Qc r σ1 → Hs D ct ad L φ N0 s.heap σ1 H1 locs1 → W p l e R s m args below meth c H1 locs1 (cells + mc) (slots + ms) Q (F0 m (pc + 3) ls (.ref (ct (2000 + r)) :: rest))) : W p l e R s m args below meth c H locs cells slots Q (F0 m pc ls st0) := by
  refine va_callr hr h.2.1 (fun _ _ q => q) (fun _ q => q) (fun u a t H1 locs1 ht hvm hw hB hz hk hS => ?_)
  obtain ⟨i, u⟩ := u
  obtain ⟨e9, hB⟩ := hB
  rw [ht] at hB
  rw [e9]
  exact kk i u H1 locs1 hw ⟨hB.1, hS, hB.2⟩
theorem k_sr {Qc : Nat → St → Prop} {j9 : Nat} {cn : String} (X : Cx p s m meth c args cc nL (some (.object cn)) own D ct L φ N0) (h : Hs D ct ad L φ N0 s.heap σ H locs) (hq : Qc j9 σ) (hdg : decode cc pc = .ok (.areturn, 1)) : W p l e R s m args below meth c H locs cells slots (MQ below (Qs D ct ad L φ N0 Qc) args s cells slots (AA N0)) (F0 m pc ls [.ref (ct (2000 + j9))]) := by
  refine W.aret X.1 X.2.1 X.2.2.2.1 (Or.inl ⟨cn, rfl⟩) (Or.inr ⟨_, rfl⟩) (fun t ht hW => ?_) h.2.1.2.2 hdg X.2.2.2.2.2.1
  exact ⟨⟨(j9, σ), _, rfl, hq, rfl, ⟨by rw [ht]; exact h.1, h.2.2⟩⟩, h.2.1.F ht⟩
theorem m_ofF {y : MethodName} {rm : Room} {Qc : Array Value → State → Outcome → State → Prop} {mc ms maxL : Nat} {av : List Value} (hy : plainFor y = true)
    (body : ∀ (p : Program) (e : Env) (s : State) (m : MethodId) (below : List Frame) (meth : Method) (c : Code), Cx p s m meth c av.toArray cc maxL ret y.cls D ct L φ N0 → (meth.name = y.name) → Hs D ct ad L φ N0 s.heap σ s.heap [] →
      W p l e rm s m av.toArray below meth c s.heap [] 0 0 (MQ below Qc av.toArray s mc ms (AA N0)) (entryFrame m av.toArray maxL)) : Met l y (.code y cc maxL ret :: gw) rm (Pm D ct ad L φ N0 σ av) Qc mc ms (AA N0) := by
  refine MetFree.of_bodySF (code := cc) (maxLocals := maxL) (ret := ret) hy ?_ ?_
  · intro args s m h hn
    obtain ⟨meth, c, h1, h2, h3, h4, h5, h6, -, -⟩ := Cond.code_spec hn (atoms_spec (ws := .code y cc maxL ret :: gw) h _ List.mem_cons_self)
    exact ⟨meth, c, h1, h2, h3, h4, h5, h6⟩
  · intro p e s m args below meth c s₁ B hml hv _
    obtain ⟨rfl, h2, h3, h4, h5, h6⟩ := hv
    have hts := atoms_spec (ws := .code y cc maxL ret :: gw) B.pre
    have hh0 : s₁.heap = s.heap := by rw [B.state]; rfl
    obtain ⟨t, a1, o, b1, b2, b3⟩ := body p e s m below meth c ⟨B.exec, B.bytes, hml, B.returns, findClass_of_methodNamed B.named, B.notSynchronized, fun w hw => hts w (List.mem_cons_of_mem _ hw), h4, h5, h6⟩ (name_of_methodNamed B.named B.method).1 ⟨h2, va_S.rf, h3⟩ s₁ hh0 (Stand.of_body B)
    exact ⟨t, o, a1, b1, b2, ⟨b3.1, b3.2⟩⟩
end MR
