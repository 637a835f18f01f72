/-! new objects in a world, and what is written of them -/
def Ext (ad : Nat → Nat → Nat) (L : List (Nat × Nat)) (ad1 : Nat → Nat → Nat) (L1 : List (Nat × Nat)) : Prop := ∀ k j, (k, j) ∈ L → (k, j) ∈ L1 ∧ ad1 k j = ad k j
theorem Ext.rf {ad : Nat → Nat → Nat} {L : List (Nat × Nat)} : Ext ad L ad L := fun _ _ h => ⟨h, rfl⟩
theorem Ext.tr {ad ad1 ad2 : Nat → Nat → Nat} {L L1 L2 : List (Nat × Nat)} (h : Ext ad L ad1 L1) (h2 : Ext ad1 L1 ad2 L2) : Ext ad L ad2 L2 := fun k j hm => ⟨(h2 k j (h k j hm).1).1, (h2 k j (h k j hm).1).2.trans (h k j hm).2⟩
theorem Ext.add {ad : Nat → Nat → Nat} {L : List (Nat × Nat)} {k n q : Nat} (hnot : (k, n) ∉ L) : Ext ad L (adu ad k n q) (L ++ [(k, n)]) := fun k' j' hm => ⟨List.mem_append_left _ hm, adu_ne (fun e => hnot (by rw [← e.1, ← e.2]; exact hm))⟩
theorem statk_grow {k : Nat} (h : growk k) : statk k = false := by rcases h with rfl | rfl | rfl | rfl | rfl | rfl | rfl <;> rfl
theorem FullS.add {L : List (Nat × Nat)} {φ : Nat → Nat → Nat → Bool} {k n : Nat} {g : Nat → Bool} (hk : growk k) (h : FullS L φ) : FullS (L ++ [(k, n)]) (phf φ k n g) := by
  have hz : ∀ K j, ¬ growk K → (K, j) ∈ L ++ [(k, n)] → (K, j) ∈ L := by
    intro K j hK hm
    rcases List.mem_append.mp hm with q | q
    · exact q
    · have := List.mem_singleton.mp q
      exact absurd (by rw [show K = k from congrArg Prod.fst this]; exact hk) hK
  refine ⟨fun k' hs => ⟨List.mem_append_left _ (h.1 k' hs).1, fun i => ?_⟩, fun j hj => List.mem_append_left _ (h.2.1 j hj), fun j hj => List.mem_append_left _ (h.2.2.1 j hj), fun j hj => h.2.2.2.1 j ?_, fun j hj => h.2.2.2.2 j (hz 50 j (by unfold growk; decide) hj)⟩
  · rw [phf_ne (fun e => by rw [e.1, statk_grow hk] at hs; cases hs)]
    exact (h.1 k' hs).2 i
  · rcases hj with q | q | q
    · exact Or.inl (hz 77 j (by unfold growk; decide) q)
    · exact Or.inr (Or.inl (hz 78 j (by unfold growk; decide) q))
    · exact Or.inr (Or.inr (hz 79 j (by unfold growk; decide) q))
theorem mem_one {L : List (Nat × Nat)} {k n K j : Nat} (h : (K, j) ∈ L ++ [(k, n)]) : (K, j) ∈ L ∨ (K = k ∧ j = n) := by
  rcases List.mem_append.mp h with q | q
  · exact Or.inl q
  · have := List.mem_singleton.mp q
    exact Or.inr ⟨congrArg Prod.fst this, congrArg Prod.snd this⟩
def flk (k fl : Nat) : Prop := (k = 10 ∧ fl = 10) ∨ (k = 1 ∧ fl = 1) ∨ (k = 4 ∧ fl = 5)
theorem flk.gr {k fl : Nat} (h : flk k fl) : growk k := by
  unfold growk
  rcases h with ⟨rfl, rfl⟩ | ⟨rfl, rfl⟩ | ⟨rfl, rfl⟩ <;> decide
theorem Dyn.add {L : List (Nat × Nat)} {φ : Nat → Nat → Nat → Bool} {σ : St} {k n fl : Nat} {g : Nat → Bool} {z : Nat → Int} (hk : flk k fl) (h4 : k = 4 → σ 50 4 n = 0) (h : Dyn L φ σ) : Dyn (L ++ [(k, n)]) (phf φ k n g) (st (sta σ k n z) 50 fl n 1) := by
  have hgr := hk.gr
  have s77 : ∀ K, K = 77 ∨ K = 78 ∨ K = 79 → st (sta σ k n z) 50 fl n 1 K 0 = σ K 0 := by
    intro K hK
    rw [st_ne (fun e => by omega), sta_ne (fun e => by rcases hk with ⟨rfl, rfl⟩ | ⟨rfl, rfl⟩ | ⟨rfl, rfl⟩ <;> omega)]
  have sn : ∀ a, a ≠ fl → st (sta σ k n z) 50 fl n 1 50 a = σ 50 a := by
    intro a ha
    rw [st_ne (fun e => ha e.2), sta_ne (fun e => by rcases hk with ⟨rfl, rfl⟩ | ⟨rfl, rfl⟩ | ⟨rfl, rfl⟩ <;> omega)]
  have ss : st (sta σ k n z) 50 fl n 1 50 fl = up (σ 50 fl) n 1 := by
    rw [st_same, sta_ne (fun e => by rcases hk with ⟨rfl, rfl⟩ | ⟨rfl, rfl⟩ | ⟨rfl, rfl⟩ <;> omega)]
  have un : ∀ j, σ 50 fl j ≠ 0 → up (σ 50 fl) n 1 j ≠ 0 := by
    intro j hj
    unfold up
    split
    · decide
    · exact hj
  have uo : ∀ j, up (σ 50 fl) n 1 j ≠ 0 → σ 50 fl j ≠ 0 ∨ j = n := by
    intro j hj
    unfold up at hj
    split at hj
    · right; assumption
    · left; exact hj
  have u1 : up (σ 50 fl) n 1 n ≠ 0 := by
    unfold up
    rw [if_pos rfl]
    decide
  obtain ⟨d1, d2, d3, d4, d5, d6, d7, d8, d9⟩ := h
  have keep : ∀ K j, (K, j) ∈ L → (K, j) ∈ L ++ [(k, n)] := fun K j hm => List.mem_append_left _ hm
  unfold Dyn
  rw [s77 77 (by omega), s77 78 (by omega), s77 79 (by omega)]
  have live : ∀ j, σ 50 4 j ≠ 0 → (4, j) ∈ L ++ [(k, n)] ∧ (35, j) ∈ L ++ [(k, n)] ∧ (36, j) ∈ L ++ [(k, n)] ∧ (37, j) ∈ L ++ [(k, n)] ∧ (38, j) ∈ L ++ [(k, n)] ∧ ∀ i, phf φ k n g 4 j i = true := by
    intro j hj
    obtain ⟨m1, m2, m3, m4, m5, m6⟩ := d1 j hj
    refine ⟨keep _ _ m1, keep _ _ m2, keep _ _ m3, keep _ _ m4, keep _ _ m5, fun i => ?_⟩
    rw [phf_ne (fun e => by rw [e.2] at hj; exact hj (h4 e.1.symm))]
    exact m6 i
  rcases hk with ⟨rfl, rfl⟩ | ⟨rfl, rfl⟩ | ⟨rfl, rfl⟩
  · rw [sn 4 (by decide), sn 1 (by decide), sn 5 (by decide), ss]
    refine ⟨live, fun j hj => (uo j hj).elim (fun q => keep _ _ (d2 j q)) (fun q => by rw [q]; exact List.mem_append_right _ (List.mem_singleton.mpr rfl)), fun j hj => keep _ _ (d3 j hj), d4, fun i hi => un i (d5 i hi), d6, fun j hj => (mem_one hj).elim (fun q => un j (d7 j q)) (fun q => by rw [q.2]; exact u1), fun j hj => (mem_one hj).elim (d8 j) (fun q => absurd q.1 (by decide)), fun j hj => d9 j ?_⟩
    rcases hj with q | q | q | q | q <;> rcases mem_one q with r | r <;> first | exact absurd r.1 (by decide) | simp [r]
  · rw [sn 4 (by decide), sn 10 (by decide), sn 5 (by decide), ss]
    refine ⟨live, fun j hj => keep _ _ (d2 j hj), fun j hj => (uo j hj).elim (fun q => keep _ _ (d3 j q)) (fun q => by rw [q]; exact List.mem_append_right _ (List.mem_singleton.mpr rfl)), d4, d5, fun i hi => un i (d6 i hi), fun j hj => (mem_one hj).elim (d7 j) (fun q => absurd q.1 (by decide)), fun j hj => (mem_one hj).elim (fun q => un j (d8 j q)) (fun q => by rw [q.2]; exact u1), fun j hj => d9 j ?_⟩
    rcases hj with q | q | q | q | q <;> rcases mem_one q with r | r <;> first | exact absurd r.1 (by decide) | simp [r]
  · rw [sn 4 (by decide), sn 10 (by decide), sn 1 (by decide), ss]
    refine ⟨live, fun j hj => keep _ _ (d2 j hj), fun j hj => keep _ _ (d3 j hj), d4, d5, d6, fun j hj => (mem_one hj).elim (d7 j) (fun q => absurd q.1 (by decide)), fun j hj => (mem_one hj).elim (d8 j) (fun q => absurd q.1 (by decide)), fun j hj => ?_⟩
    rcases hj with q | q | q | q | q <;> rcases mem_one q with r | r <;> first | (rw [r.2]; exact u1) | exact absurd r.1 (by decide) | exact un j (d9 j (by simp [r]))
def Cx.grow {p : Program} {s : State} {m : MethodId} {meth : Method} {c : Code} {args : Array Value} {cc : ByteArray} {nL : Nat} {ret : Option FieldType} {own : String} {D : va_G} {ct : Nat → ClassId} {L L1 : List (Nat × Nat)} {φ φ1 : Nat → Nat → Nat → Bool} {N0 : Nat} (X : Cx p s m meth c args cc nL ret own D ct L φ N0) (h : FullS L1 φ1) : Cx p s m meth c args cc nL ret own D ct L1 φ1 N0 :=
  ⟨X.1, X.2.1, X.2.2.1, X.2.2.2.1, X.2.2.2.2.1, X.2.2.2.2.2.1, X.2.2.2.2.2.2.1, X.2.2.2.2.2.2.2.1, h, X.2.2.2.2.2.2.2.2.2⟩
section AL
variable {p : Program} {l : Launch} {e : Env} {R : Room} {s : State} {m : MethodId} {args : Array Value} {below : List Frame} {meth : Method} {c : Code} {H : Heap} {locs : List Loc} {cells slots : Nat} {Q : State → Prop}
variable {cc : ByteArray} {pc : Nat} {ls : Array Slot} {rest : List Value} {D : va_G} {ct : Nat → ClassId} {ad : Nat → Nat → Nat} {L : List (Nat × Nat)} {φ : Nat → Nat → Nat → Bool} {N0 : Nat} {σ : St}
variable {nL : Nat} {ret : Option FieldType} {own : String}
/-- new: a zero object joins the world -/
theorem r_new (X : Cx p s m meth c args cc nL ret own D ct L φ N0) (h : Hs D ct ad L φ N0 s.heap σ H locs) {C : String} {T : u_T} {N index k n fl : Nat} {ty0 : Nat → FieldType} {zs : List Value} (hk : flk k fl) (h4 : k = 4 → σ 50 4 n = 0) (hf0 : σ 50 fl n = 0) (hin : ∀ w ∈ u_ws C T N, w ∈ gw) (hty : ∀ j, j < N → parseFieldDescriptor (T j).2.2.1 = some (ty0 j)) (hw1 : Cond.classLink own index C ∈ gw) (hw2 : Cond.instantiable C N ∈ gw) (hw3 : Cond.initialized C ∈ gw) (hc : vwCl[k]? = some (C, T, N)) (hfs : ∀ j, j < N → defaultValue (ty0 j) = vp_V zs j) (hz : ∀ (ad : Nat → Nat → Nat) (j : Nat), pcell ct ad k j (fun _ => false) z0 = .inr (k, zs)) (hcells : cells + 1 ≤ R.cells) (hslots : slots + N ≤ R.slots) (hdg : decode cc pc = .ok (.new index, 3))
    (kk : ∀ (ad1 : Nat → Nat → Nat) (L1 : List (Nat × Nat)) (φ1 : Nat → Nat → Nat → Bool) (H1 : Heap), Ext ad L ad1 L1 → FullS L1 φ1 → (k, n) ∈ L1 → (∀ i, φ1 k n i = false) → (k = 4 → (35, n) ∉ L1 ∧ (36, n) ∉ L1 ∧ (37, n) ∉ L1 ∧ (38, n) ∉ L1) → Hs D ct ad1 L1 φ1 N0 s.heap (st (sta σ k n z0) 50 fl n 1) H1 locs →
      W p l e R s m args below meth c H1 locs (cells + 1) (slots + N) Q (F0 m (pc + 3) ls (.ref (ad1 k n) :: rest))) : W p l e R s m args below meth c H locs cells slots Q (F0 m pc ls rest) := by
  obtain ⟨hx, hb, -, -, hown, -, hts, hK, hF, hN⟩ := X
  obtain ⟨d1, d2, d3, d4, d5, d6, d7, d8, d9⟩ := h.2.2
  have hnot : (k, n) ∉ L := by
    intro hm
    rcases hk with ⟨rfl, rfl⟩ | ⟨rfl, rfl⟩ | ⟨rfl, rfl⟩
    · exact d7 n hm hf0
    · exact d8 n hm hf0
    · exact d9 n (Or.inl hm) hf0
  refine va_new (ci := k) (fs := zs) hx hb hts hin ty0 hty hown (hts _ hw1) (hts _ hw2) (hts _ hw3) hK.1 h.1.1 h.1.2 h.2.1 (fun q hq => Nat.le_trans hN hq) hc hfs hcells hslots hdg (fun q H1 hP hD hS => ?_)
  have zero : ∀ (K c9 : Nat), (σ K 0 n ≠ 0 → σ 50 c9 n ≠ 0) → σ 50 c9 n = 0 → σ K 0 n = 0 := fun K c9 a b => Classical.byContradiction (fun e9 => a e9 b)
  have e1 : pl ct ad φ σ L ++ [(q, .inr (k, zs))] = pl ct (adu ad k n q) (phf φ k n (fun _ => false)) (st (sta σ k n z0) 50 fl n 1) (L ++ [(k, n)]) := by
    have e3 : pl ct (adu ad k n q) (phf φ k n (fun _ => false)) (st (sta σ k n z0) 50 fl n 1) (L ++ [(k, n)]) = pl ct (adu ad k n q) (phf φ k n (fun _ => false)) (sta σ k n z0) (L ++ [(k, n)]) := by
      unfold pl
      apply List.map_congr_left
      intro x hx
      obtain ⟨k', j'⟩ := x
      have : ¬ (k' = 50 ∧ j' = fl) := fun e => (FullS.add (n := n) (g := fun _ => false) hk.gr hF).2.2.2.2 j' (by rw [← e.1]; exact hx)
      show (_, pcell ct _ k' j' _ (st (sta σ k n z0) 50 fl n 1 k' j')) = _
      rw [st_ne this]
    rw [e3]
    unfold pl
    rw [List.map_append]
    have e2 := pl_grow (ct := ct) (ad := ad) (φ := φ) (σ := σ) (q := q) (g := fun _ => false) (z := z0) hk.gr hF.2.2.2.1 hnot (fun e => zero 77 4 (d4 n) (h4 e)) (fun e => by rcases hk with ⟨rfl, rfl⟩ | ⟨rfl, rfl⟩ | ⟨rfl, rfl⟩ <;> first | exact zero 78 10 (d5 n) hf0 | exact absurd e (by decide)) (fun e => by rcases hk with ⟨rfl, rfl⟩ | ⟨rfl, rfl⟩ | ⟨rfl, rfl⟩ <;> first | exact zero 79 1 (d6 n) hf0 | exact absurd e (by decide)) (fun a b => by rcases hk with ⟨rfl, rfl⟩ | ⟨rfl, rfl⟩ | ⟨rfl, rfl⟩ <;> omega)
    unfold pl at e2
    rw [e2]
    congr 1
    show [(q, _)] = [(adu ad k n q k n, pcell ct (adu ad k n q) k n (phf φ k n (fun _ => false) k n) (sta σ k n z0 k n))]
    rw [adu_same, phf_same, sta_same, hz]
  rw [e1] at hP hD
  have hg := kk (adu ad k n q) (L ++ [(k, n)]) (phf φ k n (fun _ => false)) H1 (Ext.add hnot) (FullS.add hk.gr hF) (List.mem_append_right _ (List.mem_singleton.mpr rfl)) (fun i => by rw [phf_same]) (fun e => by
    have hn : ∀ K, (K = 35 ∨ K = 36 ∨ K = 37 ∨ K = 38) → (K, n) ∉ L ++ [(k, n)] := by
      intro K hK hm
      rcases mem_one hm with r | r
      · have : σ 50 5 n ≠ 0 := d9 n (by rcases hK with rfl | rfl | rfl | rfl <;> simp [r])
        rcases hk with ⟨rfl, rfl⟩ | ⟨rfl, rfl⟩ | ⟨rfl, rfl⟩
        · exact absurd e (by decide)
        · exact absurd e (by decide)
        · exact this hf0
      · omega
    exact ⟨hn 35 (by omega), hn 36 (by omega), hn 37 (by omega), hn 38 (by omega)⟩) ⟨⟨hP, hD⟩, hS, Dyn.add hk h4 h.2.2⟩
  rw [adu_same] at hg
  exact hg
theorem r_putF (X : Cx p s m meth c args cc nL ret own D ct L φ N0) (hnm : meth.name = "<init>") {C : String} {T : u_T} {N ci index : Nat} (hin : ∀ w ∈ u_ws C T N, w ∈ gw) (ty0 : Nat → FieldType) (hty : ∀ k, k < N → parseFieldDescriptor (T k).2.2.1 = some (ty0 k)) (hnm2 : ∀ a, a < N → ∀ b, b < N → a ≠ b → (T a).2.1 ≠ (T b).2.1) (h : Hs D ct ad L φ N0 s.heap σ H locs) {k j : Nat} (hm : (k, j) ∈ L) {fs : List Value} (hp : pcell ct ad k j (φ k j) (σ k j) = .inr (ci, fs)) (hc : vwCl[ci]? = some (C, T, N)) (i : Nat) (hi : i < N) (hlink : Cond.fieldLink own index (T i).1 (T i).2.1 (T i).2.2.1 ∈ gw) (hfin : (T i).2.2.2 = true) (hdecl : (T i).1 = own) {v : Int} (hn9 : narrow (ty0 i) (.int (iv v)) = .int (iv v)) (hfit : fits (ty0 i) (.int (iv v)) = true) (hl : i < fs.length) (hset : pcell ct ad k j (φ k j) (up (σ k j) i v) = .inr (ci, fs.set i (.int (iv v)))) (hpl : plain k = true) (hdg : decode cc pc = .ok (.putfield index, 3))
    (kk : ∀ (H1 : Heap) (locs1 : List Loc), Hs D ct ad L φ N0 s.heap (st σ k j i v) H1 locs1 → W p l e R s m args below meth c H1 locs1 cells slots Q (F0 m (pc + 3) ls rest)) : W p l e R s m args below meth c H locs cells slots Q (F0 m pc ls (.int (iv v) :: .ref (ad k j) :: rest)) := by
  obtain ⟨hx, hb, -, -, hown, -, hts, hK, -, -⟩ := X
  obtain ⟨n, hn⟩ := List.getElem?_of_mem hm
  have he := pl_at (ct := ct) (ad := ad) (φ := φ) (σ := σ) hn
  rw [hp] at he
  refine va_putF hx hb hts hin ty0 hty hnm2 hown hK.1 h.1.1 h.1.2 h.2.1 n he hc i hi (hts _ hlink) (fun _ h9 => h9) hfin hnm hdecl (hty i hi) hn9 hfit hl hdg (fun H1 locs1 hP hD hS => ?_)
  rw [pl_set h.1.2 hn hset] at hP hD
  exact kk H1 locs1 ⟨⟨hP, hD⟩, hS, Dyn_st h.2.2 hpl⟩
end AL
