/-! op_law -/
theorem I_law_c {tx tx2 : Int} {bg ln vb ob tm ng wd rl vl bg2 ln2 so no tm2 ng2 wd2 rl2 vl2 bg' ln' vb' ob' tm' ng' wd' rl' vl' bg2' ln2' so' no' tm2' ng2' wd2' rl2' vl2' : Nat → Int} (h : I_law tx tx2 bg ln vb ob tm ng wd rl vl bg2 ln2 so no tm2 ng2 wd2 rl2 vl2)
    (e0 : ∀ t : Nat, (t : Int) < tx → bg' t = bg t ∧ ln' t = ln t ∧ bg2' t = bg2 t ∧ ln2' t = ln2 t) (e1 : ∀ i : Nat, (i : Int) < 12 * tx → vb' i = vb i ∧ ob' i = ob i ∧ tm' i = tm i) (e2 : ∀ i : Nat, (i : Int) < 60 * tx → ng' i = ng i ∧ wd' i = wd i ∧ rl' i = rl i ∧ vl' i = vl i) (e3 : ∀ i : Nat, (i : Int) < 12 * tx → so' i = so i ∧ no' i = no i ∧ tm2' i = tm2 i) (e4 : ∀ i : Nat, (i : Int) < 60 * tx → ng2' i = ng2 i ∧ wd2' i = wd2 i ∧ rl2' i = rl2 i ∧ vl2' i = vl2 i) : I_law tx tx2 bg' ln' vb' ob' tm' ng' wd' rl' vl' bg2' ln2' so' no' tm2' ng2' wd2' rl2' vl2' := by
  obtain ⟨h1, h2⟩ := h
  refine ⟨h1, fun t ht => ?_⟩
  obtain ⟨p1, p2⟩ := h2 t ht
  obtain ⟨a1, a2, a3, a4⟩ := e0 t ht
  rw [a1, a2, a3, a4]
  refine ⟨p1, fun k hk => ?_⟩
  obtain ⟨⟨s1, s2, s3, s4⟩, s5⟩ := p2 k hk
  obtain ⟨b1, b2, b3⟩ := e1 (12 * t + k) (by omega)
  obtain ⟨c1, c2, c3⟩ := e3 (12 * t + k) (by omega)
  rw [b1, b2, b3, c1, c2, c3]
  refine ⟨⟨s1, s2, s3, s4⟩, fun q hq => ?_⟩
  obtain ⟨d1, d2, d3, d4⟩ := e2 (5 * (12 * t + k) + q) (by omega)
  obtain ⟨g1, g2, g3, g4⟩ := e4 (5 * (12 * t + k) + q) (by omega)
  rw [d1, d2, d3, d4, g1, g2, g3, g4]
  exact s5 q hq
theorem op_law {n : Nat} {σ : St} {x1 : Int} (hI : Inv n σ) (h1 : inR x1) : wp_X11_law σ x1 (fun r σ1 => wp_X12_law σ1 x1 (fun r2 σ2 => r2 = r ∧ Inv (n + 1) σ2)) := by
  have hI0 := hI
  obtain ⟨a_sky, a_land, a_price, a_ints, a_logA, a_logB, a_live, a_lying, a_ways, a_crews, a_dbl, a_tape, a_law, a_ord, a_spur, a_cuts, a_cru, a_kf, a_tn⟩ := hI
  obtain ⟨⟨t1, t2, t3⟩, tL⟩ := id a_law
  obtain ⟨⟨y1, y2, y3⟩, yb⟩ := id a_tape
  obtain ⟨tx, etx⟩ : ∃ tx : Nat, σ 8 0 10 = tx := ⟨(σ 8 0 10).toNat, by omega⟩
  obtain ⟨z, ez⟩ : ∃ z : Nat, σ 9 0 1 = z := ⟨(σ 9 0 1).toNat, by omega⟩
  have hno : ¬ (0 ≤ x1 ∧ x1 ≤ 3999 ∧ tx < 20) → wp_X12_law σ x1 (fun r2 σ2 => r2 = -1 ∧ Inv (n + 1) σ2) := by
    intro hc τ eτ
    have t33 : τ 12 0 33 = tx := by rw [eτ, rs_eq, up_ne (by decide), t1, etx]
    have hi : Inv (n + 1) τ := by rw [eτ]; exact Inv_t hI0
    refine wi_m h1 in0 ⟨by decide, by decide⟩ (fun a b => ⟨in1, fun c => absurd c (by decide), fun _ => ?_⟩) (fun a => ⟨in0, fun _ => ⟨rfl, hi⟩, fun c => absurd rfl c⟩)
    rw [t33]
    exact ⟨⟨by omega, by omega⟩, fun c => absurd ⟨a, b, by omega⟩ hc, fun _ => ⟨rfl, hi⟩⟩
  unfold wp_X11_law wp_X11_isDay
  refine wi_x h1 in0 ⟨by decide, by decide⟩ (fun a b => ⟨Or.inr rfl, in1, fun c => absurd c (by decide), fun _ => ?_⟩) (fun a => ⟨Or.inl rfl, in0, fun _ => hno (fun y => a ⟨y.1, y.2.1⟩), fun c => absurd rfl c⟩)
  rw [etx]
  refine ⟨⟨by omega, by omega⟩, fun lt => ?_, fun ge => hno (fun y => ge (by omega))⟩
  have htx : tx < 20 := by omega
  have hB : Bse σ (σ 76 0) z tx := ⟨rfl, ez, by omega, fun i => ⟨(yb i).1, (yb i).2.1⟩, etx, htx⟩
  refine sx_tellL hB (fun S f r hR hG hL => ?_)
  obtain ⟨k1, k2, k3, k4, k5, k6, k7, k8, k9, k10, k11⟩ := LwX_k hL
  intro τ eτ
  have S12 : S 12 = σ 12 := k1 12 (by decide) (by decide) (by decide)
  have τ12 : ∀ i, ¬ i = 0 → τ 12 0 i = σ 12 0 i := fun i hi => by rw [eτ, rs_eq, up_ne hi, S12]
  have τk : ∀ k, ¬ k = 12 → τ k = S k := fun k hk => by rw [eτ, rs_ne hk]
  refine wi_m h1 in0 ⟨by decide, by decide⟩ (fun _ _ => ⟨in1, fun c => absurd c (by decide), fun _ => ?_⟩) (fun c => absurd ⟨a, b⟩ c)
  rw [τ12 33 (by decide), t1, etx]
  refine ⟨⟨by omega, by omega⟩, fun _ s62 e62 s63 e63 s64 e64 s65 e65 => ?_, fun c => absurd c (by omega)⟩
  have F0 : FrL2 τ τ := ⟨fun _ _ _ => rfl, fun _ _ => rfl, fun _ _ => ⟨rfl, rfl, rfl⟩, fun _ _ => ⟨rfl, rfl, rfl, rfl⟩, by rw [τk 114 (by decide), k1 114 (by decide) (by decide) (by decide)]; exact a_tn⟩
  have F5 : FrL2 τ s65 := by
    rw [e65, e64, e63, e62]
    exact FrL2_12 (FrL2_12 (FrL2_12 (FrL2_12 F0 (by decide)) (by decide)) (by decide)) (by decide)
  have v49 : s65 12 0 49 = 0 := by rw [e65, rs_eq, up_eq]
  have v47 : s65 12 0 47 = 0 := by rw [e65, rs_eq, up_ne (by decide), e64, rs_eq, up_eq]
  have v46 : s65 12 0 46 = -1 := by rw [e65, rs_eq, up_ne (by decide), e64, rs_eq, up_ne (by decide), e63, rs_eq, up_eq]
  have v45 : s65 12 0 45 = 0 := by rw [e65, rs_eq, up_ne (by decide), e64, rs_eq, up_ne (by decide), e63, rs_eq, up_ne (by decide), e62, rs_eq, up_eq]
  have T5 : TpM s65 (σ 76 0) z := by
    refine ⟨by rw [F5.2.1 44 (by decide), τ12 44 (by decide), y1, ez], by omega, fun i _ => ?_, fun i => ⟨(yb i).1, (yb i).2.1⟩⟩
    rw [F5.1 118 (by decide) (by decide), τk 118 (by decide), k1 118 (by decide) (by decide) (by decide), (yb i).2.2]
    exact and255 ⟨(yb i).1, (yb i).2.1⟩
  have W := WF_s0 (σ := σ) (b := σ 76 0) (z := z) (tx := tx)
  refine nx_m (τ := τ) (t := mkP 1 0 0 0 0 0 (-1) (fun k => σ 68 0 (12 * tx + k)) (fun k => σ 69 0 (12 * tx + k)) (fun k => σ 70 0 (12 * tx + k)) (fun k => σ 71 0 (60 * tx + k)) (fun k => σ 72 0 (60 * tx + k)) (fun k => σ 73 0 (60 * tx + k)) (fun k => σ 74 0 (60 * tx + k))) T5 v49 (Nat.zero_le _) F5 (fun T1 M1 F1 n1 i1 => ⟨15, ?_⟩)
  have B0' : Bd τ T1 (σ 76 0) z (s0P σ (σ 76 0) z tx) f 0 := ⟨rfl, rfl, by decide, M1, ⟨F1, by rw [i1 45 (by decide)]; exact v45, by rw [i1 46 (by decide)]; exact v46, by rw [i1 47 (by decide)]; exact v47⟩, W.1, W.2, fun k hk => absurd hk (by omega), hR⟩
  -- what the end has in common
  have fin1 : ∀ T U : St, FrL2 τ T → (∀ k, ¬ k = 12 → (k < 109 ∨ 117 < k) → U k = T k) → (∀ i, (i < 33 ∨ (33 < i ∧ i < 44) ∨ 51 < i) → U 12 0 i = T 12 0 i) → (∀ k, ¬ k = 8 → ¬ k = 9 → ¬ k = 12 → (k < 66 ∨ (74 < k ∧ k < 109) ∨ 117 < k) → U k = σ k) ∧ (∀ i, (0 < i ∧ i < 33) ∨ (33 < i ∧ i < 44) ∨ 51 < i → U 12 0 i = σ 12 0 i) ∧ ∀ k, ¬ k = 12 → k < 109 → U k = S k := by
    intro T U hF hU hU2
    have g : ∀ k, ¬ k = 12 → (k < 109 ∨ 117 < k) → U k = S k := fun k z1 z2 => by rw [hU k z1 z2, hF.1 k z1 (by omega), τk k z1]
    refine ⟨fun k z1 z2 z3 z4 => by rw [g k z3 (by omega), k1 k z1 z2 (by omega)], fun i hi => ?_, fun k z1 z2 => g k z1 (by omega)⟩
    rw [hU2 i (by omega), hF.2.1 i (by omega), τ12 i (by omega)]
  refine l53_loop (τ := τ) (b := σ 76 0) (z := z) (f := f) (K := wp_X12_law_72 (fun r2 σ2 => r2 = r ∧ Inv (n + 1) σ2)) (fun T hT => ?_) (fun T s r' hBd hkd => ?_) 12 0 15 T1 (s0P σ (σ 76 0) z tx) (by omega) (by omega) B0'
  · obtain ⟨fw, f45, f46, fF⟩ := hT
    have fk := hG.1 fw
    intro U eU
    have u45 : U 12 0 45 = f.fk := by rw [eU, rs_eq, up_ne (by decide), f45]
    rw [u45]
    refine ⟨by rcases fk with c | c <;> rw [c] <;> exact ⟨by decide, by decide⟩, fun c => absurd c (by omega), fun _ => ?_⟩
    obtain ⟨g1, g2, g3⟩ := fin1 T U fF (fun k z1 _ => by rw [eU, rs_ne z1]) (fun i hi => by rw [eU, rs_eq, up_ne (by omega)])
    have uT : ∀ k, ¬ k = 12 → U k = T k := fun k z => by rw [eU, rs_ne z]
    have c10 : S 8 0 10 = σ 8 0 10 ∧ r = -1 - f.fk := by
      rcases k11 with ⟨c, -⟩ | ⟨-, c1, c2⟩
      · omega
      · exact ⟨c2, c1⟩
    refine ⟨c10.2.symm, Inv_law hI0 g1 g2 ?_ ⟨by rw [g3 9 (by decide) (by decide)]; exact k2, by rw [eU, rs_eq, up_eq]⟩ ?_ ?_⟩
    · rw [g3 8 (by decide) (by decide), k3, eU, rs_eq, up_ne (by decide), f46]
    · rw [g3 8 (by decide) (by decide), c10.1, g3 66 (by decide) (by decide), g3 67 (by decide) (by decide), g3 68 (by decide) (by decide), g3 69 (by decide) (by decide), g3 70 (by decide) (by decide), g3 71 (by decide) (by decide), g3 72 (by decide) (by decide), g3 73 (by decide) (by decide), g3 74 (by decide) (by decide), show U 12 0 33 = σ 12 0 33 by rw [eU, rs_eq, up_ne (by decide), fF.2.1 33 (by decide), τ12 33 (by decide)], uT 109 (by decide), uT 110 (by decide), uT 111 (by decide), uT 112 (by decide), uT 113 (by decide), uT 114 (by decide), uT 115 (by decide), uT 116 (by decide), uT 117 (by decide), fF.1 109 (by decide) (by decide), fF.1 110 (by decide) (by decide), τk 109 (by decide), τk 110 (by decide), k1 109 (by decide) (by decide) (by decide), k1 110 (by decide) (by decide) (by decide), k4]
      refine I_law_c a_law (fun t ht => ⟨up_ne (by omega), k6 t (by omega), rfl, rfl⟩) (fun i hi => k9 i (by omega)) (fun i hi => k10 i (by omega)) (fun i hi => ?_) (fun i hi => ?_)
      · have := fF.2.2.1 i (by omega)
        rw [τk 111 (by decide), τk 112 (by decide), τk 113 (by decide), k1 111 (by decide) (by decide) (by decide), k1 112 (by decide) (by decide) (by decide), k1 113 (by decide) (by decide) (by decide)] at this
        exact this
      · have := fF.2.2.2.1 i (by omega)
        rw [τk 114 (by decide), τk 115 (by decide), τk 116 (by decide), τk 117 (by decide), k1 114 (by decide) (by decide) (by decide), k1 115 (by decide) (by decide) (by decide), k1 116 (by decide) (by decide) (by decide), k1 117 (by decide) (by decide) (by decide)] at this
        exact this
    · rw [uT 114 (by decide)]
      exact fF.2.2.2.2
  · obtain ⟨w1, l1, r12, hM, ⟨fF, n45, n46, n47⟩, hW, hGs, hrow, hRs⟩ := hBd
    have efs : f = s := Rch_fin (Or.inr ⟨w1, hkd⟩) hRs
    subst efs
    have fk0 := hG.2 (by omega)
    have c10 : S 8 0 10 = (tx : Int) + 1 ∧ r = f.len := by
      rcases k11 with ⟨-, c1, c2⟩ | ⟨c, -⟩
      · exact ⟨c2, c1⟩
      · exact absurd fk0.1 c
    intro s42 e42
    have u45 : s42 12 0 45 = 0 := by rw [e42, rs_eq, up_ne (by decide), n45]
    have u33 : s42 12 0 33 = tx := by rw [e42, rs_eq, up_ne (by decide), fF.2.1 33 (by decide), τ12 33 (by decide), t1, etx]
    rw [u45, u33, Int.toNat_natCast]
    refine ⟨in0, fun _ => ⟨by omega, by omega, fun s46 e46 => ?_⟩, fun c => absurd (Int.le_refl _) c⟩
    have w33 : s46 12 0 33 = tx := by rw [e46, rs_ne (by decide), u33]
    have w47 : s46 12 0 47 = r' := by rw [e46, rs_ne (by decide), e42, rs_eq, up_ne (by decide), n47]
    rw [w33, Int.toNat_natCast, w47]
    refine ⟨by omega, by omega, fun T0 e0 => ⟨13, ?_⟩⟩
    have x33 : T0 12 0 33 = tx := by rw [e0, rs_ne (by decide), w33]
    have kT0 : ∀ k, ¬ k = 12 → ¬ k = 109 → ¬ k = 110 → T0 k = T k := fun k z1 z2 z3 => by rw [e0, rs_ne z3, e46, rs_ne z2, e42, rs_ne z1]
    refine l116_loop htx x33 (fun T2 c1 c2 c3 hF2 => ⟨61, ?_⟩) 12 0 13 T0 (by omega) (by omega) ⟨fun k hk => absurd hk (by omega), fun i _ => rfl⟩ ⟨fun k hk => absurd hk (by omega), fun i _ => rfl⟩ ⟨fun k hk => absurd hk (by omega), fun i _ => rfl⟩ (fun k _ _ _ => rfl)
    have y33 : T2 12 0 33 = tx := by rw [hF2 12 (by decide) (by decide) (by decide), x33]
    refine l202_loop htx y33 (by rw [hF2 114 (by decide) (by decide) (by decide), kT0 114 (by decide) (by decide) (by decide)]; exact fF.2.2.2.2) (fun T3 d1 d2 d3 d4 hF3 => ?_) 60 0 61 T2 (by omega) (by omega) ⟨fun k hk => absurd hk (by omega), fun i _ => rfl⟩ ⟨fun k hk => absurd hk (by omega), fun i _ => rfl⟩ ⟨fun k hk => absurd hk (by omega), fun i _ => rfl⟩ ⟨fun k hk => absurd hk (by omega), fun i _ => rfl⟩ (fun k _ _ _ _ => rfl)
    intro U eU
    have t3 : T3 12 = T0 12 := by rw [hF3 12 (by decide) (by decide) (by decide) (by decide), hF2 12 (by decide) (by decide) (by decide)]
    have u47 : U 12 0 47 = r' := by rw [eU, rs_eq, up_ne (by decide), t3, e0, rs_ne (by decide), w47]
    have uT : ∀ k, ¬ k = 12 → (k < 109 ∨ 117 < k) → U k = T k := fun k z1 z2 => by rw [eU, rs_ne z1, hF3 k (by omega) (by omega) (by omega) (by omega), hF2 k (by omega) (by omega) (by omega), kT0 k z1 (by omega) (by omega)]
    have u12 : ∀ i, ¬ i = 33 → ¬ i = 44 → U 12 0 i = T 12 0 i := fun i z1 z2 => by rw [eU, rs_eq, up_ne z1, t3, e0, rs_ne (by decide), e46, rs_ne (by decide), e42, rs_eq, up_ne z2]
    obtain ⟨g1, g2, g3⟩ := fin1 T U fF uT (fun i hi => u12 i (by omega) (by omega))
    rw [u47]
    refine ⟨by rw [c10.2, l1], Inv_law hI0 g1 g2 ?_ ⟨by rw [g3 9 (by decide) (by decide)]; exact k2, ?_⟩ ?_ ?_⟩
    · rw [g3 8 (by decide) (by decide), k3, u12 46 (by decide) (by decide), n46, fk0.2]
    · rw [eU, rs_eq, up_ne (by decide), t3, e0, rs_ne (by decide), e46, rs_ne (by decide), e42, rs_eq, up_eq]
    · have v33 : U 12 0 33 = (tx : Int) + 1 := by rw [eU, rs_eq, up_eq, t3, x33]
      have v109 : U 109 0 = up (σ 109 0) tx x1 := by rw [eU, rs_ne (by decide), hF3 109 (by decide) (by decide) (by decide) (by decide), hF2 109 (by decide) (by decide) (by decide), e0, rs_ne (by decide), e46, rs_eq, e42, rs_ne (by decide), fF.1 109 (by decide) (by decide), τk 109 (by decide), k1 109 (by decide) (by decide) (by decide)]
      have v110 : U 110 0 = up (σ 110 0) tx r' := by rw [eU, rs_ne (by decide), hF3 110 (by decide) (by decide) (by decide) (by decide), hF2 110 (by decide) (by decide) (by decide), e0, rs_eq, e46, rs_ne (by decide), e42, rs_ne (by decide), fF.1 110 (by decide) (by decide), τk 110 (by decide), k1 110 (by decide) (by decide) (by decide)]
      have m3 : ∀ k, k = 111 ∨ k = 112 ∨ k = 113 → U k = T2 k := fun k hk => by rw [eU, rs_ne (by omega), hF3 k (by omega) (by omega) (by omega) (by omega)]
      have m4 : ∀ k, k = 114 ∨ k = 115 ∨ k = 116 ∨ k = 117 → U k = T3 k := fun k hk => by rw [eU, rs_ne (by omega)]
      have p2 : ∀ k, k = 114 ∨ k = 115 ∨ k = 116 ∨ k = 117 → T2 k = T k := fun k hk => by rw [hF2 k (by omega) (by omega) (by omega), kT0 k (by omega) (by omega) (by omega)]
      have p1 : ∀ k, k = 111 ∨ k = 112 ∨ k = 113 → T0 k = T k := fun k hk => kT0 k (by omega) (by omega) (by omega)
      rw [g3 8 (by decide) (by decide), c10.1, v33, g3 66 (by decide) (by decide), g3 67 (by decide) (by decide), g3 68 (by decide) (by decide), g3 69 (by decide) (by decide), g3 70 (by decide) (by decide), g3 71 (by decide) (by decide), g3 72 (by decide) (by decide), g3 73 (by decide) (by decide), g3 74 (by decide) (by decide), v109, v110, m3 111 (by decide), m3 112 (by decide), m3 113 (by decide), m4 114 (by decide), m4 115 (by decide), m4 116 (by decide), m4 117 (by decide), k4]
      have old := I_law_c (tx := σ 8 0 10) (tx2 := σ 12 0 33) (bg' := up (σ 66 0) tx x1) (ln' := S 67 0) (vb' := S 68 0) (ob' := S 69 0) (tm' := S 70 0) (ng' := S 71 0) (wd' := S 72 0) (rl' := S 73 0) (vl' := S 74 0) (bg2' := up (σ 109 0) tx x1) (ln2' := up (σ 110 0) tx r') (so' := T2 111 0) (no' := T2 112 0) (tm2' := T2 113 0) (ng2' := T3 114 0) (wd2' := T3 115 0) (rl2' := T3 116 0) (vl2' := T3 117 0) a_law (fun t ht => ⟨up_ne (by omega), k6 t (by omega), up_ne (by omega), up_ne (by omega)⟩) (fun i hi => k9 i (by omega)) (fun i hi => k10 i (by omega)) (fun i hi => by
        have h3 := fF.2.2.1 i (by omega)
        rw [τk 111 (by decide), τk 112 (by decide), τk 113 (by decide), k1 111 (by decide) (by decide) (by decide), k1 112 (by decide) (by decide) (by decide), k1 113 (by decide) (by decide) (by decide)] at h3
        rw [c1.2 i (by omega), c2.2 i (by omega), c3.2 i (by omega), p1 111 (by decide), p1 112 (by decide), p1 113 (by decide)]
        exact h3) (fun i hi => by
        have h4 := fF.2.2.2.1 i (by omega)
        rw [τk 114 (by decide), τk 115 (by decide), τk 116 (by decide), τk 117 (by decide), k1 114 (by decide) (by decide) (by decide), k1 115 (by decide) (by decide) (by decide), k1 116 (by decide) (by decide) (by decide), k1 117 (by decide) (by decide) (by decide)] at h4
        rw [d1.2 i (by omega), d2.2 i (by omega), d3.2 i (by omega), d4.2 i (by omega), p2 114 (by decide), p2 115 (by decide), p2 116 (by decide), p2 117 (by decide)]
        exact h4)
      refine ⟨⟨rfl, by omega, by omega⟩, fun t ht => ?_⟩
      by_cases c : t = tx
      · subst c
        refine ⟨⟨by rw [up_eq, up_eq], by rw [up_eq, k5, l1], by rw [up_eq]; omega, by rw [up_eq]; omega, by rw [k5]; omega, by rw [k5]; omega⟩, fun k hk => ?_⟩
        rw [k5, l1] at hk
        obtain ⟨a1, a2, a3, a4⟩ := hrow k (by omega)
        obtain ⟨q1, q2, q3⟩ := k7 k (by omega)
        rw [q1, q2, q3, c1.1 k (by omega), c2.1 k (by omega), c3.1 k (by omega), p1 111 (by decide), p1 112 (by decide), p1 113 (by decide)]
        refine ⟨⟨a1, a2, a3.1, a3.2⟩, fun q hq => ?_⟩
        have eq : 5 * (12 * t + k) + q = 60 * t + (5 * k + q) := by omega
        obtain ⟨v1, v2, v3, v4⟩ := k8 (5 * k + q) (by omega)
        rw [eq, v1, v2, v3, v4, d1.1 (5 * k + q) (by omega), d2.1 (5 * k + q) (by omega), d3.1 (5 * k + q) (by omega), d4.1 (5 * k + q) (by omega), p2 114 (by decide), p2 115 (by decide), p2 116 (by decide), p2 117 (by decide)]
        exact a4 q hq
      · exact old.2 t (by omega)
    · rw [eU, rs_ne (by decide)]
      intro i
      have tn := fF.2.2.2.2
      by_cases c : i < 60 * tx ∨ 60 * tx + 60 ≤ i
      · rw [d1.2 i c, hF2 114 (by decide) (by decide) (by decide), kT0 114 (by decide) (by decide) (by decide)]
        exact tn i
      · have e : i = 60 * tx + (i - 60 * tx) := by omega
        rw [e, d1.1 (i - 60 * tx) (by omega), hF2 114 (by decide) (by decide) (by decide), kT0 114 (by decide) (by decide) (by decide)]
        exact tn _
