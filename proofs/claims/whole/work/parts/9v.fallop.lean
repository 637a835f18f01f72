/-! fall: the reference, and both -/
theorem Inv_scr {n : Nat} {σ U : St} (hI : Inv n σ) (hk : ∀ k, ¬ k = 0 → ¬ k = 12 → ¬ k = 21 → ¬ k = 22 → ¬ k = 23 → ¬ k = 75 → ¬ k = 93 → ¬ k = 94 → ¬ k = 119 → U k = σ k) (h12 : ∀ i, ¬ i = 0 → ¬ i = 15 → U 12 0 i = σ 12 0 i) : Inv (n + 1) U := by
  obtain ⟨a_sky, a_land, a_price, a_ints, a_logA, a_logB, a_live, a_lying, a_ways, a_crews, a_dbl, a_tape, a_law, a_ord, a_spur, a_cuts, a_cru, a_kf, a_tn⟩ := hI
  unfold Inv
  simp (decide := true) only [hk, h12, not_false_eq_true]
  exact ⟨a_sky, a_land, a_price, I_ints_up a_ints, a_logA, a_logB, a_live, a_lying, a_ways, a_crews, a_dbl, a_tape, a_law, a_ord, a_spur, a_cuts, a_cru, a_kf, a_tn⟩
theorem RelL_c {S V W : St} (h : RelL S V) (e : REq W V) : RelL S W := by
  obtain ⟨e1, e2⟩ := e
  unfold RelL
  rw [e1 95 (by decide) (by decide), e1 96 (by decide) (by decide), e1 97 (by decide) (by decide), e1 98 (by decide) (by decide), e1 99 (by decide) (by decide), e1 100 (by decide) (by decide), e1 101 (by decide) (by decide), e1 102 (by decide) (by decide), e1 103 (by decide) (by decide), e1 104 (by decide) (by decide), e1 105 (by decide) (by decide), e1 106 (by decide) (by decide), e1 107 (by decide) (by decide), e1 108 (by decide) (by decide), e2]
  exact h
theorem pay_b {pay s : Int} {m : Nat} (hp : 0 ≤ pay ∧ pay ≤ 9999) (hs : 0 ≤ s ∧ s ≤ 294 * (m : Int)) : 0 ≤ pay * s ∧ pay * s ≤ 3000000 * (m : Int) := by
  have a := Int.mul_nonneg hp.1 hs.1
  have b := Int.mul_le_mul hp.2 hs.2 hs.1 (show (0 : Int) ≤ 9999 by decide)
  omega
theorem fall_m {n : Nat} {σ S T : St} {j c m : Nat} {so sz pay : Int} {f : Nat → Int} (hI : Inv n σ) (hj : (j : Int) < σ 11 0 11) (hc : c ≤ 63) (hso : 0 ≤ so ∧ so ≤ 3) (hsz : 0 ≤ sz ∧ sz ≤ 3) (hm5 : m ≤ 5) (hm1 : 1 ≤ m) (hf : ∀ i, i < m → 2 ≤ f i ∧ f i ≤ 6) (hpay : 0 ≤ pay ∧ pay ≤ 9999) (hl : σ 11 0 4 + m ≤ 300) (hst : 1 ≤ σ 30 0 (16 * c + 4 * so.toNat + sz.toNat))
    (hS : FaX σ S j c (16 * c + 4 * so.toNat + sz.toNat) m (pay * psum (wiF (σ 33 0) so sz f) f (σ 11 0 12) m)) (hR : RelL S (nmF σ (σ 11 0 4).toNat c so (σ 125 0 j) (σ 7 0 3) (σ 3 0 6) f (wiF (σ 33 0) so sz f) m))
    (hT : ∀ k, ¬ k = 12 → ¬ k = 93 → ¬ k = 94 → ¬ k = 119 → T k = S k) (h12 : ∀ i, ¬ i = 0 → ¬ i = 15 → T 12 0 i = σ 12 0 i) (t15 : T 12 0 15 = m) (t93 : ∀ i, i < m → T 93 0 i = f i) :
    wp_X12_fall_117 (fun r2 σ2 => r2 = (m : Int) ∧ Inv (n + 1) σ2) T j c so sz pay := by
  have hI0 := hI
  obtain ⟨a_sky, a_land, a_price, a_ints, a_logA, a_logB, a_live, a_lying, a_ways, a_crews, a_dbl, a_tape, a_law, a_ord, a_spur, a_cuts, a_cru, a_kf, a_tn⟩ := hI
  obtain ⟨⟨k1, k2, k3⟩, k4, -⟩ := id a_sky
  obtain ⟨v1, v2, -⟩ := id a_live
  obtain ⟨⟨l1, l2, l3, l4, l5, l6⟩, m1, lh, ls, lt, lg, lp⟩ := id a_land
  obtain ⟨⟨i1, i2, i3⟩, -, -, ir⟩ := id a_ints
  obtain ⟨cr1, cr2, cr3⟩ := id a_crews
  obtain ⟨⟨c1, c2⟩, ⟨c3, c4, c5, c6, c7⟩, c8⟩ := cr2 j hj
  have eL : ((σ 11 0 4).toNat : Int) = σ 11 0 4 := Int.toNat_of_nonneg v2.1
  have tS : ∀ k, 83 ≤ k → ¬ k = 93 → ¬ k = 94 → ¬ k = 119 → T k = σ k := fun k z1 z2 z3 z4 => by
    rw [hT k (by omega) z2 z3 z4]
    exact hS.1 k (by omega) (by omega) (by omega) (by omega) (by omega) (by omega) (by omega) (by omega) (by omega) (by omega) (by omega) (by omega) (by omega) (by omega) (by omega) (by omega) (by omega)
  have t17 : T 12 0 17 = σ 11 0 4 := by rw [h12 17 (by decide) (by decide), v1]
  have ep : Int.toNat (16 * (c : Int) + 4 * so + sz) = 16 * c + 4 * so.toNat + sz.toNat := by omega
  unfold wp_X12_fall_117 wp_X12_stemAt
  rw [t17, t15]
  dsimp only
  rw [ep, Int.toNat_natCast]
  refine ⟨⟨by omega, by omega⟩, fun _ => ⟨by omega, by omega, by omega, by omega, fun A eA => ⟨by omega, by omega, by omega, by omega, fun B eB => ⟨6, ?_⟩⟩⟩, fun z => absurd hl z⟩
  have bT : ∀ k, ¬ k = 84 → ¬ k = 85 → B k = T k := fun k z1 z2 => by rw [eB, rs_ne z1, eA, rs_ne z2]
  have b12 : ∀ i, ¬ i = 0 → ¬ i = 15 → B 12 0 i = σ 12 0 i := fun i z1 z2 => by rw [bT 12 (by decide) (by decide), h12 i z1 z2]
  have b87 : B 87 0 = σ 33 0 := by rw [bT 87 (by decide) (by decide), tS 87 (by decide) (by decide) (by decide) (by decide), l5]
  have wb := wiF_b hso hsz lp hm5 hf
  have pb := psum_b (ru := σ 11 0 12) wb hf m (Nat.le_refl _)
  have qb := pay_b hpay pb
  refine fm_loop (σ := B) (V0 := σ) (l0 := (σ 11 0 4).toNat) (m := m) (f := f) (br := σ 125 0 j) (td := σ 7 0 3) (mill := σ 3 0 6) (ru := σ 11 0 12) (by omega) hm5 (by omega) hc hso hsz (by rw [bT 125 (by decide) (by decide), tS 125 (by decide) (by decide) (by decide) (by decide)]) (by rw [b12 1 (by decide) (by decide), k2]) (by omega) (by rw [b12 7 (by decide) (by decide), l6]) m1 (by rw [b87]; exact lp) (by rw [b12 66 (by decide) (by decide), i2]) ⟨by omega, by omega⟩ (by rw [bT 12 (by decide) (by decide), t15]) (fun i hi => by rw [bT 93 (by decide) (by decide), t93 i hi]) hf (fun W hW hFr => ?_) m 0 6 B (by omega) (by omega) ⟨fun k z1 z2 => by rw [bT k (by omega) (by omega), tS k (by omega) (by omega) (by omega) (by omega)]; rfl, by rw [b12 17 (by decide) (by decide)]; rfl⟩ ⟨fun k _ _ => rfl, fun i _ => rfl, by rw [b12 17 (by decide) (by decide), v1]; omega⟩
  rw [b87] at hW ⊢
  obtain ⟨g1, g2, g3⟩ := hFr
  unfold wp_X12_fall_244
  rw [Int.toNat_natCast]
  refine ⟨by omega, by omega, by omega, by omega, fun U eU => ?_⟩
  have uW : ∀ k, ¬ k = 126 → U k = W k := fun k z => by rw [eU, rs_ne z]
  have w126 : W 126 = σ 126 := by rw [g1 126 (by decide) (by decide), bT 126 (by decide) (by decide), tS 126 (by decide) (by decide) (by decide) (by decide)]
  refine ⟨?_, Inv_fall hI0 hS hm1 hj qb hst (fun k z1 z2 z3 z4 z5 z6 z7 z8 => ?_) (fun i z1 z2 z3 => ?_) ?_ ?_ ?_ (RelL_c hR ⟨fun k z1 z2 => ?_, ?_⟩)⟩
  · rw [uW 12 (by decide), g2 15 (by decide), bT 12 (by decide) (by decide), t15]
  · rw [uW k z8, g1 k z6 z1, bT k z2 z3, hT k z1 z4 z5 z7]
  · rw [uW 12 (by decide), g2 i z3, b12 i z1 z2]
  · rw [eU, rs_eq, w126]
  · rw [uW 84 (by decide), g1 84 (by decide) (by decide), eB, rs_eq, eA, rs_ne (by decide), tS 84 (by decide) (by decide) (by decide) (by decide)]
  · rw [uW 85 (by decide), g1 85 (by decide) (by decide), eB, rs_ne (by decide), eA, rs_eq, tS 85 (by decide) (by decide) (by decide) (by decide)]
  · rw [uW k (by omega)]
    exact hW.1 k z1 z2
  · rw [uW 12 (by decide)]
    exact hW.2
theorem fall_ref {n : Nat} {σ s : St} {x1 x2 x3 x4 x5 r pay : Int} {f : Nat → Int} {P : Int → St → Prop} (hI : Inv n σ) (em : MEq σ (st s 12 0 0 0)) (g1 : 0 ≤ x1 ∧ x1 < σ 11 0 11) (gl : σ 129 0 x1.toNat = 0) (g2 : 0 ≤ x2 ∧ x2 ≤ 63) (g3 : 0 ≤ x3 ∧ x3 ≤ 3) (g4 : 0 ≤ x4 ∧ x4 ≤ 3) (gs : ¬ σ 85 0 (Int.toNat (16 * x2 + 4 * x3 + x4)) = 0) (h5 : inR x5) (hf : FcCut σ x1 x2 x3 x4 f) (hr : BarF σ f 0 r) (hp : NumF σ f 1 pay)
    (q3 : ¬ r = -1 → ∀ g, P (-3) (sta (st s 12 0 0 0) 119 0 g))
    (qL : r = -1 → ¬ x5 = 0 → ∀ g, wp_X12_lays (sta (st s 12 0 0 0) 119 0 g) x3 x4 x5 (fun r_62 σ_61 => inR r_62 ∧ (¬ r_62 = 0 → wp_X12_fall_117 P σ_61 x1 x2 x3 x4 pay) ∧ (r_62 = 0 → P (-4) σ_61)))
    (qB : r = -1 → x5 = 0 → ∀ g, wp_X12_bucks (sta (st s 12 0 0 0) 119 0 g) x3 x4 (fun r_66 σ_65 => wp_X12_fall_117 P σ_65 x1 x2 x3 x4 pay)) : wp_X12_fall s x1 x2 x3 x4 x5 P := by
  have hI0 := hI
  obtain ⟨a_sky, a_land, a_price, a_ints, a_logA, a_logB, a_live, a_lying, a_ways, a_crews, a_dbl, a_tape, a_law, a_ord, a_spur, a_cuts, a_cru, a_kf, a_tn⟩ := hI
  have v1 := a_crews.1
  have h1 : inR x1 := ⟨by omega, by omega⟩
  have h2 : inR x2 := ⟨by omega, by omega⟩
  have h3 : inR x3 := ⟨by omega, by omega⟩
  have h4 : inR x4 := ⟨by omega, by omega⟩
  obtain ⟨-, -, -, ls, lt, -⟩ := id a_land
  have e85 : σ 85 = σ 85 := rfl
  intro τ eτ
  rw [← eτ] at em q3 qL qB
  have t60 : τ 12 0 60 = σ 12 0 60 := em.1 60 (by decide)
  have t129 : τ 129 = σ 129 := em.2 129 (by decide) (by decide)
  have t85 : τ 85 = σ 85 := em.2 85 (by decide) (by decide)
  have e2 := a_land.1.2.2.1
  unfold wp_X12_isCrew wp_X12_isCell wp_X12_isStem wp_X12_stemAt
  refine wi_m h1 in0 ⟨by omega, by omega⟩ (fun _ _ => ⟨Or.inr rfl, in1, fun c => absurd c (by decide), fun _ => ⟨by omega, by omega, ?_⟩⟩) (fun a => absurd (by omega) a)
  rw [t129, gl]
  refine ⟨in0, fun z => absurd rfl z, fun _ => ?_⟩
  refine wi_m h2 in0 ⟨by decide, by decide⟩ (fun _ _ => ⟨Or.inr rfl, in1, fun c => absurd c (by decide), fun _ => ?_⟩) (fun a => absurd (by omega) a)
  refine wi_m h3 in0 ⟨by decide, by decide⟩ (fun _ _ => ⟨in1, fun c => absurd c (by decide), fun _ => ?_⟩) (fun a => absurd (by omega) a)
  refine wi_m h4 in0 ⟨by decide, by decide⟩ (fun _ _ => ⟨in1, fun c => absurd c (by decide), fun _ => ⟨in1, fun _ => ?_, fun c => absurd c (by decide)⟩⟩) (fun a => absurd (by omega) a)
  dsimp only
  rw [t85]
  have lb := lt (Int.toNat (16 * x2 + 4 * x3 + x4))
  rw [← e2] at lb
  refine ⟨by omega, by omega, ⟨by omega, by omega⟩, fun _ => ?_, fun z => absurd z gs⟩
  refine qm_cut hI0 em g2 (fun g hg => qm_bar hI0 em (FcCut_in hI0 hg h1 g2 h3 h4) (Fc_eq hf hg) ⟨by decide, by decide⟩ hr ⟨?_, fun y => ?_, fun y => q3 y g⟩)
  · have := barF_b (LawX.of a_law) hr
    exact ⟨by omega, by omega⟩
  · refine qm_num hI0 em (FcCut_in hI0 hg h1 g2 h3 h4) (Fc_eq hf hg) (verb := 1) ⟨by decide, by decide⟩ (by decide) hp (fun _ => ⟨h5, fun z => qL y z g, fun z => qB y z g⟩)
