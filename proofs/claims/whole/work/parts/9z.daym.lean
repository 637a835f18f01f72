/-! a day goes by: the reference, which floats a log at once -/
theorem cfv_upa {a v : Nat → Int} {P : Nat → Prop} {j : Nat} {x : Int} (h : ¬ P j) : cfv (up a j x) v P = up (cfv a v P) j x := by
  funext i
  by_cases e : i = j
  · rw [e, up_eq, cfv_n h, up_eq]
  · rw [up_ne e]
    by_cases p : P i
    · rw [cfv_p p, cfv_p p]
    · rw [cfv_n p, cfv_n p, up_ne e]
theorem cfv_vc {a v v' : Nat → Int} {P : Nat → Prop} (h : ∀ i, P i → v' i = v i) : cfv a v' P = cfv a v P := by
  funext i
  by_cases p : P i
  · rw [cfv_p p, cfv_p p, h i p]
  · rw [cfv_n p, cfv_n p]
def FloP (G V : St) (m : Nat) (td mill : Int) (F : Nat → Prop) : Prop :=
  (V 95 0 = G 95 0 ∧ V 103 0 = G 103 0 ∧ V 102 0 = cfv (G 102 0) (fun _ => 1) F ∧ V 104 0 = cfv (G 104 0) (fun _ => td) (at5 F 1) ∧ V 105 0 = cfv (G 105 0) (kdv td mill (G 95 0)) (at5 F 1)) ∧ ∀ l, F l → l < m ∧ G 102 0 l = 0 ∧ G 95 0 l = mill ∧ G 103 0 l = td
theorem FloP_mv {G V : St} {m l : Nat} {td mill to : Int} {F : Nat → Prop} (h : FloP G V m td mill F) (hn : ¬ F l) : FloP (mvM G l to td) (mvM V l to td) m td mill F := by
  obtain ⟨⟨h1, h2, h3, h4, h5⟩, h6⟩ := h
  unfold FloP mvM
  simp (decide := true) only [rs_ne, rs_eq, not_false_eq_true]
  refine ⟨⟨by rw [h1], by rw [h2], h3, h4, ?_⟩, fun i hi => ?_⟩
  · rw [h5]
    refine cfv_vc (fun i hi => ?_)
    unfold kdv
    have e : ¬ i / 5 = l := fun z => hn (by rw [← z]; exact hi.1)
    rw [up_ne e]
  · have e : ¬ i = l := fun z => hn (by rw [← z]; exact hi)
    rw [up_ne e, up_ne e]
    exact h6 i hi
theorem FloP_sk {G V : St} {m l : Nat} {td mill kd : Int} {F : Nat → Prop} (h : FloP G V m td mill F) (hn : ¬ F l) : FloP (bcm G l 4 4 td kd) (bcm V l 4 4 td kd) m td mill F := by
  obtain ⟨⟨h1, h2, h3, h4, h5⟩, h6⟩ := h
  unfold FloP bcm
  simp (decide := true) only [rs_ne, rs_eq, not_false_eq_true]
  have n5 : ¬ at5 F 1 (5 * l + 4) := fun z => by have := z.2; omega
  refine ⟨⟨h1, h2, by rw [h3, cfv_upa hn], by rw [h4, cfv_upa n5], by rw [h5, cfv_upa n5]⟩, fun i hi => ?_⟩
  have e : ¬ i = l := fun z => hn (by rw [← z]; exact hi)
  rw [up_ne e]
  exact h6 i hi
theorem FloP_po {G V : St} {m l : Nat} {td mill kd : Int} {F : Nat → Prop} (h : FloP G V m td mill F) (hl : l < m) (g1 : G 102 0 l = 0) (g2 : G 95 0 l = mill) (g3 : G 103 0 l = td) (hk : kd = td + Int.tdiv (apv mill mill) 4) : FloP G (bcm V l 1 1 td kd) m td mill (fun i => F i ∨ i = l) := by
  obtain ⟨⟨h1, h2, h3, h4, h5⟩, h6⟩ := h
  unfold FloP bcm
  simp (decide := true) only [rs_ne, rs_eq, not_false_eq_true]
  have c5 := at5_up (P := F) (P' := fun i => F i ∨ i = l) (j := l) (x := 1) (by decide) (fun i => Iff.rfl)
  have ek : kdv td mill (G 95 0) (5 * l + 1) = kd := by
    unfold kdv
    rw [show (5 * l + 1) / 5 = l by omega, g2, hk]
  refine ⟨⟨h1, h2, ?_, ?_, ?_⟩, fun i hi => ?_⟩
  · rw [h3, cfv_up (P := F) (P' := fun i => F i ∨ i = l) (j := l) (fun i => Iff.rfl)]
  · rw [h4, cfv_up c5]
  · rw [h5, cfv_up c5, ek]
  · rcases hi with hi | hi
    · exact h6 i hi
    · rw [hi]
      exact ⟨hl, g1, g2, g3⟩
/-- what is kept of the ghost's rows -/
def GhB (V : St) (m : Nat) : Prop := ∀ l, l < m → 0 ≤ V 102 0 l ∧ V 102 0 l ≤ 4 ∧ 0 ≤ V 95 0 l ∧ V 95 0 l ≤ 63 ∧ 0 ≤ V 103 0 l ∧ V 103 0 l ≤ 3999
theorem GhB_mv {V : St} {m l : Nat} {to td : Int} (h : GhB V m) (ht : 0 ≤ to ∧ to ≤ 63) (hd : 0 ≤ td ∧ td ≤ 3999) : GhB (mvM V l to td) m := by
  intro i hi
  have a := h i hi
  unfold mvM
  simp (decide := true) only [rs_ne, rs_eq, not_false_eq_true]
  by_cases e : i = l
  · rw [e, up_eq, up_eq]
    rw [e] at a
    omega
  · rw [up_ne e, up_ne e]
    exact a
theorem GhB_G {V : St} {m l : Nat} {to td mill snk : Int} {wd : Nat → Int} (h : GhB V m) (ht : 0 ≤ to ∧ to ≤ 63) (hd : 0 ≤ td ∧ td ≤ 3999) : GhB (dyG V td mill to snk wd l) m := by
  have a := GhB_mv (l := l) h ht hd
  unfold dyG
  split
  · intro i hi
    have b := a i hi
    unfold bcm
    simp (decide := true) only [rs_ne, rs_eq, not_false_eq_true]
    by_cases e : i = l
    · rw [e, up_eq]
      rw [e] at b
      omega
    · rw [up_ne e]
      exact b
  · exact a
theorem GhB_R {td mill fr to snk : Int} {wd vl : Nat → Int} {p : Int × Int × St} {m : Nat} (h : GhB p.2.2 m) (ht : 0 ≤ to ∧ to ≤ 63) (hd : 0 ≤ td ∧ td ≤ 3999) : ∀ l, GhB (dyR td mill fr to snk wd vl p l).2.2 m := by
  intro l
  induction l with
  | zero => exact h
  | succ l ih =>
    show GhB (dyS td mill fr to snk wd vl (dyR td mill fr to snk wd vl p l) l).2.2 m
    unfold dyS
    split
    · exact GhB_G ih ht hd
    · exact ih
def FrE (τ T : St) : Prop := ∀ k, ¬ k = 95 → ¬ k = 102 → ¬ k = 103 → ¬ k = 104 → ¬ k = 105 → ¬ k = 119 → T k = τ k
theorem FrE_mv {τ T : St} {l : Nat} {to td : Int} (h : FrE τ T) : FrE τ (mvM T l to td) := fun k z1 z2 z3 z4 z5 z6 => by
  unfold mvM
  rw [rs_ne z3, rs_ne z1]
  exact h k z1 z2 z3 z4 z5 z6
theorem FrE_bc {τ T : St} {l k : Nat} {x td kd : Int} (h : FrE τ T) : FrE τ (bcm T l k x td kd) := fun k z1 z2 z3 z4 z5 z6 => by
  unfold bcm
  rw [rs_ne z5, rs_ne z4, rs_ne z2]
  exact h k z1 z2 z3 z4 z5 z6
theorem cm_loop {τ V0 : St} {w m : Nat} {fr to : Int} {td mill snk r0 n0 : Int} {Q : Int → St → Prop} (hw : w < 40) (hm : τ 12 0 17 = m) (hm3 : m ≤ 300) (hr : 0 ≤ r0 ∧ r0 ≤ 200) (hu : ∀ l, l < m → 2 ≤ τ 97 0 l ∧ τ 97 0 l ≤ 6 ∧ 1 ≤ τ 98 0 l ∧ τ 98 0 l ≤ 32) (hfr : inR fr) (ht : 0 ≤ to ∧ to ≤ 63) (h1 : τ 121 0 w = fr) (h2 : τ 122 0 w = to) (htd : τ 12 0 1 = td) (hb : 0 ≤ td ∧ td ≤ 3999) (hmi : τ 12 0 7 = mill) (hmb : 0 ≤ mill ∧ mill ≤ 63) (hsn : snk = 0 ∨ snk = 1) (hg : GhB V0 m)
    (q : ∀ T F, FloP (dyR td mill fr to snk (τ 98 0) (vlv τ) (r0, n0, V0) m).2.2 T m td mill F → FrE τ T → Q (dyR td mill fr to snk (τ 98 0) (vlv τ) (r0, n0, V0) m).2.1 T) :
    ∀ (k i n : Nat) (T : St) (F : Nat → Prop), i + k = m → k < n → FloP (dyR td mill fr to snk (τ 98 0) (vlv τ) (r0, n0, V0) i).2.2 T m td mill F → FrE τ T → wp_X12_carries_42 Q n T w (dyR td mill fr to snk (τ 98 0) (vlv τ) (r0, n0, V0) i).1 (dyR td mill fr to snk (τ 98 0) (vlv τ) (r0, n0, V0) i).2.1 snk i := by
  have hv : ∀ l, l < m → 1 ≤ vlv τ l := fun l hl => by
    have a := hu l hl
    exact (vol_b ⟨a.1, a.2.1⟩ ⟨a.2.2.1, a.2.2.2⟩).2.1
  intro k
  induction k with
  | zero =>
    intro i n T F hk hn1 hR hF
    obtain ⟨n, rfl⟩ : ∃ n', n = n' + 1 := ⟨n - 1, by omega⟩
    have e : i = m := by omega
    subst e
    unfold wp_X12_carries_42
    rw [hF 12 (by decide) (by decide) (by decide) (by decide) (by decide) (by decide), hm]
    exact ⟨⟨by omega, by omega⟩, ⟨by omega, by omega⟩, fun _ => q T F hR hF, fun z => absurd (Int.le_refl _) z⟩
  | succ k ih =>
    intro i n T F hk hn1 hR hF
    obtain ⟨n, rfl⟩ : ∃ n', n = n' + 1 := ⟨n - 1, by omega⟩
    have rb := dyR_b (td := td) (mill := mill) (fr := fr) (to := to) (snk := snk) (wd := τ 98 0) (p := (r0, n0, V0)) hr hv i (by omega)
    have gb := GhB_R (td := td) (mill := mill) (fr := fr) (to := to) (snk := snk) (wd := τ 98 0) (vl := vlv τ) (p := (r0, n0, V0)) hg ht hb i i (by omega)
    have nxt : dyR td mill fr to snk (τ 98 0) (vlv τ) (r0, n0, V0) (i + 1) = dyS td mill fr to snk (τ 98 0) (vlv τ) (dyR td mill fr to snk (τ 98 0) (vlv τ) (r0, n0, V0) i) i := rfl
    have ih' := fun T F => ih (i + 1) n T F (by omega) (by omega)
    rw [nxt] at ih'
    obtain ⟨p, ep⟩ : ∃ p, p = dyR td mill fr to snk (τ 98 0) (vlv τ) (r0, n0, V0) i := ⟨_, rfl⟩
    rw [← ep] at hR rb gb ih' ⊢
    clear ih nxt
    have f := fun (k : Nat) (h : k < 95 ∨ (95 < k ∧ k < 102) ∨ (105 < k ∧ k < 119) ∨ 119 < k) => hF k (by omega) (by omega) (by omega) (by omega) (by omega) (by omega)
    have t12 : T 12 = τ 12 := f 12 (by omega)
    have hR0 := hR
    obtain ⟨⟨f1, f2, f3, f4, f5⟩, f6⟩ := hR
    have ui := hu i (by omega)
    have vb := vol_b (u := τ 97 0 i) (w := τ 98 0 i) ⟨ui.1, ui.2.1⟩ ⟨ui.2.2.1, ui.2.2.2⟩
    have ev : Int.tdiv (τ 97 0 i * τ 98 0 i) 8 + 1 = vlv τ i := rfl
    rw [ev] at vb
    have stay : ¬ (p.2.2 102 0 i = 0 ∧ p.2.2 95 0 i = fr ∧ p.2.2 103 0 i < td ∧ vlv τ i ≤ p.1) → wp_X12_carries_42 Q n T w p.1 p.2.1 snk ((i + 1 : Nat) : Int) := by
      intro z
      have nx := ih' T F
      unfold dyS at nx
      rw [if_neg z] at nx
      exact nx hR0 hF
    unfold wp_X12_carries_42 wp_X12_carries_187 wp_X12_volume
    dsimp only
    rw [t12, hm, htd, Int.toNat_natCast, Int.toNat_natCast, f 121 (by omega), h1, f 122 (by omega), h2, f 97 (by omega), f 98 (by omega), ev, f1, f2, f3, show ((i : Int) + 1) = ((i + 1 : Nat) : Int) by omega]
    by_cases hFi : F i
    · obtain ⟨-, g1, g2, g3⟩ := f6 i hFi
      rw [cfv_p hFi]
      exact ⟨⟨by omega, by omega⟩, ⟨by omega, by omega⟩, fun z => absurd z (by omega), fun _ => ⟨by omega, by omega, in1, fun _ => stay (fun y => by omega), fun z => absurd z (by decide)⟩⟩
    · rw [cfv_n hFi]
      refine ⟨⟨by omega, by omega⟩, ⟨by omega, by omega⟩, fun z => absurd z (by omega), fun _ => ⟨by omega, by omega, ⟨by omega, by omega⟩, fun z => stay (fun y => z y.1), fun z1 => ⟨by omega, by omega, by omega, by omega, ⟨by omega, by omega⟩, hfr, fun z => stay (fun y => z y.2.1), fun z2 => ⟨by omega, by omega, ⟨by omega, by omega⟩, ⟨by omega, by omega⟩, fun z => stay (fun y => by omega), fun z3 => ⟨by omega, by omega, by omega, by omega, vb.1, ⟨by omega, by omega⟩, ⟨by omega, by omega⟩, fun z4 => ⟨by omega, by omega, by omega, by omega, vb.1, fun v28 e28 => ⟨by omega, by omega, by omega, by omega, fun T1 e1 => ⟨by omega, by omega, fun T2 e2 => ?_⟩⟩⟩, fun z4 => stay (fun y => by omega)⟩⟩⟩⟩⟩
      have yes : p.2.2 102 0 i = 0 ∧ p.2.2 95 0 i = fr ∧ p.2.2 103 0 i < td ∧ vlv τ i ≤ p.1 := ⟨z1, z2, by omega, z4⟩
      have go : ∀ T' F', FloP (dyG p.2.2 td mill to snk (τ 98 0) i) T' m td mill F' → FrE τ T' → wp_X12_carries_42 Q n T' w v28 (p.2.1 + 1) snk ((i + 1 : Nat) : Int) := by
        intro T' F' a b
        have nx := ih' T' F'
        unfold dyS at nx
        rw [if_pos yes] at nx
        dsimp only at nx
        rw [e28]
        exact nx a b
      have t1 : T1 12 0 1 = td := by rw [e1, rs_ne (by decide), t12, htd]
      have eM : T2 = mvM T i to td := by
        rw [e2, t1, e1]
        rfl
      have m1 := FloP_mv (to := to) hR0 hFi
      have m2 : FrE τ (mvM T i to td) := FrE_mv hF
      rw [← eM] at m1 m2
      have u98 : T2 98 0 i = τ 98 0 i := by rw [m2 98 (by decide) (by decide) (by decide) (by decide) (by decide) (by decide)]
      have u122 : T2 122 0 w = to := by rw [m2 122 (by decide) (by decide) (by decide) (by decide) (by decide) (by decide), h2]
      have u12 : T2 12 = τ 12 := m2 12 (by decide) (by decide) (by decide) (by decide) (by decide) (by decide)
      have u95 : T2 95 0 i = to := by rw [eM]; unfold mvM; rw [rs_ne (by decide), rs_eq, up_eq]
      have rest : ¬ (snk = 1 ∧ 30 < τ 98 0 i) → wp_X12_carries_167 (fun σ x1 x2 x3 x4 x5 => wp_X12_carries_42 Q n σ x1 x2 x3 x4 x5) Q T2 w v28 (p.2.1 + 1) snk i := by
        intro ns
        have eG : dyG p.2.2 td mill to snk (τ 98 0) i = mvM p.2.2 i to td := by unfold dyG; exact if_neg ns
        rw [eG] at go
        unfold wp_X12_carries_167 wp_X12_carries_187
        rw [Int.toNat_natCast, u122, u12, hmi, show ((i : Int) + 1) = ((i + 1 : Nat) : Int) by omega]
        refine ⟨by omega, by omega, ⟨by omega, by omega⟩, ⟨by omega, by omega⟩, fun _ => go T2 F m1 m2, fun z => ?_⟩
        refine sm_becomes (k := 1) (td := td) (cell := to) (by omega) rfl (by decide) u95 ht (by rw [u12, hmi]; exact hmb) (by rw [u12, htd]) ?_
        rw [u12, hmi]
        refine go _ _ (FloP_po m1 (by omega) ?_ ?_ ?_ (by rw [z])) (FrE_bc m2)
        · unfold mvM
          rw [rs_ne (by decide), rs_ne (by decide)]
          exact z1
        · unfold mvM
          rw [rs_ne (by decide), rs_eq, up_eq]
          exact z
        · unfold mvM
          rw [rs_eq, up_eq]
      rw [u98]
      refine ⟨by rcases hsn with e | e <;> rw [e] <;> exact ⟨by decide, by decide⟩, fun z => rest (fun y => by omega), fun z => ⟨by omega, by omega, ⟨by omega, by omega⟩, fun y => rest (fun x => by omega), fun y => ?_⟩⟩
      have ys : snk = 1 ∧ 30 < τ 98 0 i := ⟨by omega, by omega⟩
      refine sm_becomes (k := 4) (td := td) (cell := to) (by omega) rfl (by decide) u95 ht (by rw [u12, hmi]; exact hmb) (by rw [u12, htd]) ?_
      rw [u12, hmi]
      refine go _ F ?_ (FrE_bc m2)
      unfold dyG
      rw [if_pos ys]
      exact FloP_sk m1 hFi
