/-! a LOG's own rows join the world; its references are set; it lives -/
def lar (K : Nat) : Prop := K = 35 ∨ K = 36 ∨ K = 37 ∨ K = 38
theorem lar.gr {K : Nat} (h : lar K) : growk K := by
  unfold growk
  rcases h with rfl | rfl | rfl | rfl <;> decide
theorem Dyn.addA {L : List (Nat × Nat)} {φ : Nat → Nat → Nat → Bool} {σ : St} {K n : Nat} {g : Nat → Bool} {z : Nat → Int} (hK : lar K) (hraw : σ 50 5 n ≠ 0) (h : Dyn L φ σ) : Dyn (L ++ [(K, n)]) (phf φ K n g) (sta σ K n z) := by
  have hs : ∀ k' a, ¬ lar k' → sta σ K n z k' a = σ k' a := fun k' a hk => sta_ne (fun e => hk (by rw [e.1]; exact hK))
  obtain ⟨d1, d2, d3, d4, d5, d6, d7, d8, d9⟩ := h
  have keep : ∀ k' j, (k', j) ∈ L → (k', j) ∈ L ++ [(K, n)] := fun k' j hm => List.mem_append_left _ hm
  unfold Dyn
  rw [hs 77 0 (by unfold lar; decide), hs 78 0 (by unfold lar; decide), hs 79 0 (by unfold lar; decide), hs 50 4 (by unfold lar; decide), hs 50 10 (by unfold lar; decide), hs 50 1 (by unfold lar; decide), hs 50 5 (by unfold lar; decide)]
  refine ⟨fun j hj => ?_, fun j hj => keep _ _ (d2 j hj), fun j hj => keep _ _ (d3 j hj), d4, d5, d6, fun j hj => (mem_one hj).elim (d7 j) (fun q => by rcases hK with rfl | rfl | rfl | rfl <;> exact absurd q.1 (by decide)), fun j hj => (mem_one hj).elim (d8 j) (fun q => by rcases hK with rfl | rfl | rfl | rfl <;> exact absurd q.1 (by decide)), fun j hj => ?_⟩
  · obtain ⟨m1, m2, m3, m4, m5, m6⟩ := d1 j hj
    refine ⟨keep _ _ m1, keep _ _ m2, keep _ _ m3, keep _ _ m4, keep _ _ m5, fun i => ?_⟩
    rw [phf_ne (fun e => by rcases hK with rfl | rfl | rfl | rfl <;> exact absurd e.1 (by decide))]
    exact m6 i
  · rcases hj with q | q | q | q | q <;> rcases mem_one q with r | r <;> first | (rw [r.2]; exact hraw) | exact d9 j (by simp [r])
section AL3
variable {p : Program} {l : Launch} {e : Env} {R : Room} {s : State} {m : MethodId} {args : Array Value} {below : List Frame} {meth : Method} {c : Code} {H : Heap} {locs : List Loc} {cells slots : Nat} {Q : State → Prop}
variable {cc : ByteArray} {pc : Nat} {ls : Array Slot} {rest : List Value} {D : va_G} {ct : Nat → ClassId} {ad : Nat → Nat → Nat} {L : List (Nat × Nat)} {φ : Nat → Nat → Nat → Bool} {N0 : Nat} {σ : St}
variable {nL : Nat} {ret : Option FieldType} {own : String}
theorem r_newA (X : Cx p s m meth c args cc nL ret own D ct L φ N0) (h : Hs D ct ad L φ N0 s.heap σ H locs) {K n N' : Nat} {x : Int} (hK9 : lar K) (hnot : (K, n) ∉ L) (hφ : φ 4 n (K - 25) = false) (hraw : σ 50 5 n ≠ 0) (h0 : 0 ≤ x) (hN : x.toNat = N') (hb9 : x < 100000) (hw : Cond.arrayClass .int ∈ gw) (hp : ∀ (ad : Nat → Nat → Nat) (g : Nat → Bool), pcell ct ad K n g z0 = .inl (ct 0, N', .inl (fun i => iv (z0 i)))) (hcells : cells + 1 ≤ R.cells) (hslots : slots + N' ≤ R.slots) (hdg : decode cc pc = .ok (.newarray .int, 2))
    (kk : ∀ (ad1 : Nat → Nat → Nat) (L1 : List (Nat × Nat)) (φ1 : Nat → Nat → Nat → Bool) (H1 : Heap), Ext ad L ad1 L1 → FullS L1 φ1 → (K, n) ∈ L1 → (∀ j, φ1 4 j = φ 4 j) → (∀ K' j', (K', j') ∈ L1 → (K', j') ∈ L ∨ (K' = K ∧ j' = n)) → Hs D ct ad1 L1 φ1 N0 s.heap (sta σ K n z0) H1 locs →
      W p l e R s m args below meth c H1 locs (cells + 1) (slots + N') Q (F0 m (pc + 2) ls (.ref (ad1 K n) :: rest))) : W p l e R s m args below meth c H locs cells slots Q (F0 m pc ls (.int (iv x) :: rest)) := by
  obtain ⟨hx, hb, -, -, hown, -, hts, hK, hF, hN0⟩ := X
  have hR : inR x := ⟨by omega, by omega⟩
  refine va_newa hx hb (atype := .int) (hts _ hw) (ty := .int) rfl hK.1 h.1.1 h.1.2 h.2.1 (fun q hq => Nat.le_trans hN0 hq) (N' := N') (a0 := (N', .inl (fun i => iv (z0 i)))) (fun cA => rfl) (by have := (iv_lt hR (y := 0) ⟨by decide, by decide⟩); intro q; exact absurd (this.mp q) (by omega)) (by rw [iv_clamp hR]; exact hN) (by show N' * 4 ≤ 536870912; omega) hcells hslots hdg (fun q cA H1 hK1 hP hD hS => ?_)
  have e1 : cA = ct 0 := by
    have a1 := (hK1.2 8 (cA, .int) rfl).2
    have a2 := (hK.1.2 0 (ct 0, .int) rfl).2
    exact Option.some.inj (a1.symm.trans a2)
  rw [e1] at hP hD
  have e2 : pl ct ad φ σ L ++ [(q, .inl (ct 0, N', .inl (fun i => iv (z0 i))))] = pl ct (adu ad K n q) (phf φ K n (φ K n)) (sta σ K n z0) (L ++ [(K, n)]) := by
    unfold pl
    rw [List.map_append]
    have e3 := pl_grow (ct := ct) (ad := ad) (φ := φ) (σ := σ) (q := q) (g := φ K n) (z := z0) hK9.gr hF.2.2.2.1 hnot (fun e => by rcases hK9 with rfl | rfl | rfl | rfl <;> exact absurd e (by decide)) (fun e => by rcases hK9 with rfl | rfl | rfl | rfl <;> exact absurd e (by decide)) (fun e => by rcases hK9 with rfl | rfl | rfl | rfl <;> exact absurd e (by decide)) (fun _ _ => hφ)
    unfold pl at e3
    rw [e3]
    congr 1
    show [(q, _)] = [(adu ad K n q K n, pcell ct (adu ad K n q) K n (phf φ K n (φ K n) K n) (sta σ K n z0 K n))]
    rw [adu_same, sta_same, hp]
  rw [e2] at hP hD
  have hg := kk (adu ad K n q) (L ++ [(K, n)]) (phf φ K n (φ K n)) H1 (Ext.add hnot) (FullS.add hK9.gr hF) (List.mem_append_right _ (List.mem_singleton.mpr rfl)) (fun j => phf_ne (fun e => by rcases hK9 with rfl | rfl | rfl | rfl <;> exact absurd e.1 (by decide))) (fun K' j' hm => mem_one hm) ⟨⟨hP, hD⟩, hS, Dyn.addA hK9 hraw h.2.2⟩
  rw [adu_same] at hg
  exact hg
theorem pl_phi {A : Nat → Prop} {n0 k j : Nat} {g : Nat → Bool} {E : va_E} (hD : va_D A (pl ct ad φ σ L)) (hn : L[n0]? = some (k, j)) (hE : pcell ct ad k j g (σ k j) = E) : (pl ct ad φ σ L).set n0 (ad k j, E) = pl ct ad (phf φ k j g) σ L := by
  apply List.ext_getElem?
  intro m
  by_cases hmn : n0 = m
  · subst hmn
    have hlt : n0 < (pl ct ad φ σ L).length := (List.getElem?_eq_some_iff.mp (pl_at (ct := ct) (ad := ad) (φ := φ) (σ := σ) hn)).1
    rw [List.getElem?_set_self hlt, pl_at hn, phf_same, hE]
  · rw [List.getElem?_set_ne hmn]
    cases hq : L[m]? with
    | none => simp only [pl, List.getElem?_map, hq, Option.map_none]
    | some q =>
      obtain ⟨k', j'⟩ := q
      rw [pl_at hq, pl_at hq, phf_ne (fun e => hmn (hD.1 n0 m _ _ (pl_at hn) (pl_at hq) (by rw [e.1, e.2])))]
theorem FullS.phi {k j : Nat} {g : Nat → Bool} (hk : growk k) (h : FullS L φ) : FullS L (phf φ k j g) := by
  refine ⟨fun k' hs => ⟨(h.1 k' hs).1, fun i => ?_⟩, h.2⟩
  rw [phf_ne (fun e => by rw [e.1, statk_grow hk] at hs; cases hs)]
  exact (h.1 k' hs).2 i
theorem Dyn.phi {n : Nat} {g : Nat → Bool} (hz : σ 50 4 n = 0) (h : Dyn L φ σ) : Dyn L (phf φ 4 n g) σ := by
  obtain ⟨d1, d2⟩ := h
  refine ⟨fun j hj => ?_, d2⟩
  obtain ⟨m1, m2, m3, m4, m5, m6⟩ := d1 j hj
  refine ⟨m1, m2, m3, m4, m5, fun i => ?_⟩
  rw [phf_ne (fun e => by rw [e.2] at hj; exact hj hz)]
  exact m6 i
/-- a LOG's reference to one of its rows is set, in its constructor -/
theorem r_putR (X : Cx p s m meth c args cc nL ret own D ct L φ N0) (hnm : meth.name = "<init>") (h : Hs D ct ad L φ N0 s.heap σ H locs) {index n K i : Nat} {fs : List Value} (hm : (4, n) ∈ L) (hp : pcell ct ad 4 n (φ 4 n) (σ 4 n) = .inr (4, fs)) (hi : i < 16) (hl : i < fs.length) (hlink : Cond.fieldLink own index (TX4 i).1 (TX4 i).2.1 (TX4 i).2.2.1 ∈ gw) (hfin : (TX4 i).2.2.2 = true) (hdecl : (TX4 i).1 = own) (hn9 : narrow (tyX4 i) (.ref (ad K n)) = .ref (ad K n)) (hfit : fits (tyX4 i) (.ref (ad K n)) = true) (hset : pcell ct ad 4 n (fun i' => if i' = i then true else φ 4 n i') (σ 4 n) = .inr (4, fs.set i (.ref (ad K n)))) (hz : σ 50 4 n = 0) (hdg : decode cc pc = .ok (.putfield index, 3))
    (kk : ∀ (φ1 : Nat → Nat → Nat → Bool) (H1 : Heap) (locs1 : List Loc), FullS L φ1 → (∀ i', φ1 4 n i' = if i' = i then true else φ 4 n i') → Hs D ct ad L φ1 N0 s.heap σ H1 locs1 → W p l e R s m args below meth c H1 locs1 cells slots Q (F0 m (pc + 3) ls rest)) : W p l e R s m args below meth c H locs cells slots Q (F0 m pc ls (.ref (ad K n) :: .ref (ad 4 n) :: rest)) := by
  obtain ⟨hx, hb, -, -, hown, -, hts, hK, hF, -⟩ := X
  obtain ⟨n0, hn0⟩ := List.getElem?_of_mem hm
  have he := pl_at (ct := ct) (ad := ad) (φ := φ) (σ := σ) hn0
  rw [hp] at he
  refine va_putF (ci := 4) hx hb hts inw_4 tyX4 tyX4_ok nmX4 hown hK.1 h.1.1 h.1.2 h.2.1 n0 he rfl i hi (hts _ hlink) (fun _ h9 => h9) hfin hnm hdecl (tyX4_ok i hi) hn9 hfit hl hdg (fun H1 locs1 hP hD hS => ?_)
  rw [pl_phi h.1.2 hn0 hset] at hP hD
  exact kk _ H1 locs1 (FullS.phi (Or.inr (Or.inl rfl)) hF) (fun i' => by rw [phf_same]) ⟨⟨hP, hD⟩, hS, Dyn.phi hz h.2.2⟩
/-- a LOG whose rows are all set lives: nothing of the machine changes -/
theorem k_live (hF : FullS L φ) (h : Hs D ct ad L φ N0 s.heap σ H locs) {n : Nat} (m1 : (4, n) ∈ L) (m2 : (35, n) ∈ L) (m3 : (36, n) ∈ L) (m4 : (37, n) ∈ L) (m5 : (38, n) ∈ L) (f1 : φ 4 n 10 = true) (f2 : φ 4 n 11 = true) (f3 : φ 4 n 12 = true) (f4 : φ 4 n 13 = true) : FullS L (phf φ 4 n (fun _ => true)) ∧ Hs D ct ad L (phf φ 4 n (fun _ => true)) N0 s.heap (st σ 50 4 n 1) H locs := by
  have e1 : pl ct ad (phf φ 4 n (fun _ => true)) (st σ 50 4 n 1) L = pl ct ad φ σ L := by
    unfold pl
    apply List.map_congr_left
    intro x hx
    obtain ⟨k', j'⟩ := x
    have h50 : ¬ (k' = 50 ∧ j' = 4) := fun e => hF.2.2.2.2 j' (by rw [← e.1]; exact hx)
    show (ad k' j', pcell ct ad k' j' (phf φ 4 n (fun _ => true) k' j') (st σ 50 4 n 1 k' j')) = (ad k' j', pcell ct ad k' j' (φ k' j') (σ k' j'))
    rw [st_ne h50]
    by_cases e : k' = 4 ∧ j' = n
    · obtain ⟨rfl, rfl⟩ := e
      rw [phf_same]
      simp only [pcell, f1, f2, f3, f4]
    · rw [phf_ne e]
  refine ⟨FullS.phi (Or.inr (Or.inl rfl)) hF, ⟨by rw [e1]; exact h.1.1, by rw [e1]; exact h.1.2⟩, h.2.1, ?_⟩
  obtain ⟨d1, d2, d3, d4, d5, d6, d7, d8, d9⟩ := h.2.2
  have s4 : st σ 50 4 n 1 50 4 = up (σ 50 4) n 1 := st_same
  have so : ∀ a, a ≠ 4 → st σ 50 4 n 1 50 a = σ 50 a := fun a ha => st_ne (fun e => ha e.2)
  have sk : ∀ K, K ≠ 50 → ∀ a, st σ 50 4 n 1 K a = σ K a := fun K hK a => st_ne (fun e => hK e.1)
  unfold Dyn
  rw [s4, so 10 (by decide), so 1 (by decide), so 5 (by decide), sk 77 (by decide), sk 78 (by decide), sk 79 (by decide)]
  refine ⟨fun j hj => ?_, d2, d3, fun i hi => ?_, d5, d6, d7, d8, d9⟩
  · by_cases e : j = n
    · subst e
      exact ⟨m1, m2, m3, m4, m5, fun i => by rw [phf_same]⟩
    · have hj' : σ 50 4 j ≠ 0 := by
        unfold up at hj
        rw [if_neg e] at hj
        exact hj
      obtain ⟨a1, a2, a3, a4, a5, a6⟩ := d1 j hj'
      exact ⟨a1, a2, a3, a4, a5, fun i => by rw [phf_ne (fun q => e q.2)]; exact a6 i⟩
  · unfold up
    split
    · decide
    · exact d4 i hi
end AL3
