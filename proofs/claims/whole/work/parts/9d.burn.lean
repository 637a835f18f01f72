/-! the call burn -/
theorem I_land_sl {h s t g p h2 s2 t2 g2 p2 : Nat → Int} {mill mill2 lc : Int} {c : Nat} (hl : 0 ≤ lc) (a : I_land h s t g p mill h2 s2 t2 g2 p2 mill2 lc) : I_land h (up s c 0) t g p mill h2 (up s2 c 0) t2 g2 p2 mill2 lc := by
  obtain ⟨⟨e1, e2, e3, e4, e5, e6⟩, b1, b2, b3, b4⟩ := a
  refine ⟨⟨e1, by rw [e2], e3, e4, e5, e6⟩, b1, b2, fun i => ?_, b4⟩
  have b := b3 i
  unfold up
  split <;> omega
theorem Inv_b {n c : Nat} {σ : St} (hI : Inv n σ) : Inv n (st (st σ 29 0 c 0) 84 0 c 0) := by
  obtain ⟨a_sky, a_land, a_price, a_ints, a_logA, a_logB, a_live, a_lying, a_ways, a_crews, a_dbl, a_tape, a_law, a_ord, a_spur, a_cuts, a_cru, a_kf, a_tn⟩ := hI
  have v2 := a_live.2.1
  unfold Inv
  simp (decide := true) only [rs_ne, rs_fn, upj_eq, upj_ne, up_eq, up_ne, ra_ne, ra_fn, upr_eq, upr_ne, not_false_eq_true, ne_eq]
  exact ⟨a_sky, I_land_sl v2.1 a_land, a_price, a_ints, a_logA, a_logB, a_live, a_lying, a_ways, a_crews, a_dbl, a_tape, a_law, a_ord, a_spur, a_cuts, a_cru, a_kf, a_tn⟩
theorem Inv_b2 {n c : Nat} {σ : St} {f g : Nat → Int} (hI : Inv n σ) : Inv (n + 1) (st (sta (st (st (sta σ 75 0 f) 29 0 c 0) 12 0 0 0) 119 0 g) 84 0 c 0) := by
  obtain ⟨a_sky, a_land, a_price, a_ints, a_logA, a_logB, a_live, a_lying, a_ways, a_crews, a_dbl, a_tape, a_law, a_ord, a_spur, a_cuts, a_cru, a_kf, a_tn⟩ := hI
  have v2 := a_live.2.1
  unfold Inv
  simp (decide := true) only [rs_ne, rs_fn, upj_eq, upj_ne, up_eq, up_ne, ra_ne, ra_fn, upr_eq, upr_ne, not_false_eq_true, ne_eq]
  refine ⟨?_, ?_, ?_, ?_, ?_, ?_, ?_, ?_, ?_, ?_, ?_, ?_, ?_, ?_, ?_, ?_, ?_, ?_, ?_⟩
  · exact a_sky
  · exact I_land_sl v2.1 a_land
  · exact a_price
  · exact I_ints_up a_ints
  · exact a_logA
  · exact a_logB
  · exact a_live
  · exact a_lying
  · exact a_ways
  · exact a_crews
  · exact a_dbl
  · exact a_tape
  · exact a_law
  · exact a_ord
  · exact a_spur
  · exact a_cuts
  · exact a_cru
  · exact a_kf
  · exact a_tn
/-- burn, of the reference -/
theorem bm {n c : Nat} {σ S : St} {f : Nat → Int} {r : Int} {Q : Int → St → Prop} (hI : Inv n σ) (hc : c < 64) (em : MEq σ (st S 12 0 0 0)) (hf : FcWay σ c 0 f) (hr : BarF σ f 2 r) (rb : inR r) (q2 : ¬ r = -1 → ∀ g, Q (-2) (sta (st S 12 0 0 0) 119 0 g)) (q0 : r = -1 → wea σ 2 < 7 → ∀ g, Q 0 (st (sta (st S 12 0 0 0) 119 0 g) 84 0 c 0)) (q1 : r = -1 → ¬ wea σ 2 < 7 → ∀ g, wp_X12_fires (st (sta (st S 12 0 0 0) 119 0 g) 84 0 c 0) c 0 3 Q) : wp_X12_burn S c Q := by
  intro τ eτ
  rw [← eτ] at em q2 q0 q1
  have hI0 := hI
  obtain ⟨a_sky, a_land, a_price, a_ints, a_logA, a_logB, a_live, a_lying, a_ways, a_crews, a_dbl, a_tape, a_law, a_ord, a_spur, a_cuts, a_cru, a_kf, a_tn⟩ := hI
  have sx := SkyX.of a_sky
  have wb := wea_in sx 2
  obtain ⟨sr, ly, -, ⟨e1, e2, e3, e4⟩, -, w0, w1, w2⟩ := em.facts hI0
  unfold wp_X12_isCell
  refine wi_m ⟨by omega, by omega⟩ in0 ⟨by decide, by decide⟩ (fun a b => ⟨Or.inr rfl, in1, fun _ => ?_, fun c => absurd c (by decide)⟩) (fun z => absurd ⟨by omega, by omega⟩ z)
  refine sm_asks sr (by omega) (by omega) ly.1 (fun z => absurd z (by omega)) (fun _ g hg => ?_)
  rw [e1, e2, e3, e4, w0, w1, w2] at hg
  obtain ⟨⟨f0, f1, f2, f3⟩, ⟨f4, f5, f6, f7, f8⟩, f9, f10, f11, f12⟩ := hg
  have hg2 : FcWay σ c 0 g := ⟨f0, f1, f2, f3, f4, f5, f6, f7, f8, f9, f10, f11, f12⟩
  refine qm_bar hI0 em (FcWay_in hI0 hg2 (by omega) in0) (Fc_eq hf hg2) ⟨by decide, by decide⟩ hr ⟨rb, fun y => ⟨by omega, by omega, fun s1 es => ?_⟩, fun y => q2 y g⟩
  rw [Int.toNat_natCast] at es
  have p0 := q0 y
  have p1 := q1 y
  have r12 : s1 12 = τ 12 := by rw [es, rs_ne (by decide), ra_ne (by decide)]
  have rk : ∀ k, ¬ k = 84 → ¬ k = 119 → s1 k = τ k := fun k z1 z2 => by rw [es, rs_ne z1, ra_ne z2]
  have ew : weaM s1 2 = wea σ 2 := by
    rw [← w2]
    unfold weaM
    rw [r12, rk 88 (by decide) (by decide), rk 89 (by decide) (by decide), rk 90 (by decide) (by decide), rk 91 (by decide) (by decide)]
  refine sm_skyn (by rw [r12, rk 88 (by decide) (by decide)]; exact sr) (by decide) (by decide) ?_
  rw [ew]
  exact ⟨⟨by omega, by omega⟩, fun z => by rw [es]; exact p0 z g, fun z => by rw [es]; exact p1 z g⟩
theorem op_burn {n : Nat} {σ : St} {x1 : Int} (hI : Inv n σ) (h1 : inR x1) : wp_X11_burn σ x1 (fun r σ1 => wp_X12_burn σ1 x1 (fun r2 σ2 => r2 = r ∧ Inv (n + 1) σ2)) := by
  have hI0 := hI
  obtain ⟨a_sky, a_land, a_price, a_ints, a_logA, a_logB, a_live, a_lying, a_ways, a_crews, a_dbl, a_tape, a_law, a_ord, a_spur, a_cuts, a_cru, a_kf, a_tn⟩ := hI
  have sx := SkyX.of a_sky
  have wb := wea_in sx 2
  have m1 := a_land.2.1
  unfold wp_X11_burn wp_X11_isCell
  refine wi_x h1 in0 ⟨by decide, by decide⟩ (fun a b => ⟨Or.inr rfl, in1, fun _ => ?_, fun c => absurd c (by decide)⟩) (fun a => ⟨Or.inl rfl, in0, fun c => absurd rfl c, fun _ => ?_⟩)
  · obtain ⟨c, rfl⟩ : ∃ c : Nat, x1 = c := ⟨x1.toNat, by omega⟩
    have hc : c < 64 := by omega
    refine sx_askOfDay sx (fun f0 hf0 => sx_askOfCell hf0 a b m1 (fun f hf => ?_))
    obtain ⟨⟨f0, f1, f2, f3⟩, ⟨f4, f5, f6, f7, f8⟩, f9, f10, f11, f12⟩ := hf
    have hf2 : FcWay σ c 0 f := ⟨f0, f1, f2, f3, f4, f5, f6, f7, f8, f9, f10, f11, f12⟩
    refine qx_bar hI0 ⟨by decide, by decide⟩ (FcWay_in hI0 hf2 (by omega) in0) (fun r hr => ?_)
    have rb := barF_b (LawX.of a_law) hr
    have ir : inR r := ⟨by omega, by omega⟩
    refine ⟨ir, fun y => ⟨a, by omega, fun s1 es => ?_⟩, fun y => ?_⟩
    · rw [Int.toNat_natCast] at es
      have sk : ∀ k, ¬ k = 29 → ¬ k = 75 → s1 k = σ k := fun k z1 z2 => by rw [es, rs_ne z1, ra_ne z2]
      have s29 : s1 29 0 = up (σ 29 0) c 0 := by rw [es, rs_eq, ra_ne (by decide)]
      have ew : wea s1 2 = wea σ 2 := by
        unfold wea
        rw [sk 65 (by decide) (by decide), sk 64 (by decide) (by decide), sk 7 (by decide) (by decide)]
      have sx1 : SkyX (s1 7 0) (s1 64 0) (s1 65 0) := by
        rw [sk 65 (by decide) (by decide), sk 64 (by decide) (by decide), sk 7 (by decide) (by decide)]
        exact sx
      refine sx_now sx1 (by decide) (by decide) ?_
      rw [ew]
      refine ⟨⟨by omega, by omega⟩, fun z => ?_, fun z => ?_⟩
      · refine bm hI0 hc ⟨fun i hi => by rw [rs_eq, up_ne hi, sk 12 (by decide) (by decide)], fun k z1 z2 => by rw [rs_ne (by omega), sk k (by omega) (by omega)]⟩ hf2 hr ir (fun u => absurd y u) (fun _ _ g => ⟨rfl, by rw [es]; exact Inv_b2 hI0⟩) (fun _ u => absurd z u)
      · obtain ⟨B, eB⟩ : ∃ B : St, B = st (st σ 29 0 c 0) 84 0 c 0 := ⟨_, rfl⟩
        have hB : Inv n B := by rw [eB]; exact Inv_b hI0
        have sB : ∀ k, ¬ k = 75 → ¬ k = 84 → s1 k = B k := fun k z1 z2 => by
          rw [eB, rs_ne z2]
          by_cases e : k = 29
          · rw [e, es, rs_fn, rs_fn, ra_ne (by decide)]
          · rw [rs_ne e, sk k e z1]
        obtain ⟨b_sky, b_land, -, -, b_logA, b_logB, b_live, b_lying, -⟩ := id hB
        obtain ⟨v1, v2, v3, -⟩ := id b_live
        obtain ⟨-, n1, lh, ls, lt, -⟩ := id b_land
        have q : ∀ k, (k < 75 ∨ (75 < k ∧ k < 84) ∨ 84 < k) → s1 k = B k := fun k z => sB k (by omega) (by omega)
        have eC : CatX s1 0 (wea s1 2) = CatX B 0 (wea B 2) := by
          unfold CatX wea
          rw [q 28 (by decide), q 29 (by decide), q 30 (by decide), q 65 (by decide), q 64 (by decide), q 7 (by decide)]
        refine fire_x (m := 3) (by unfold FiX; rw [q 28 (by decide), q 29 (by decide), q 30 (by decide)]; exact ⟨lh, fun i => by have := ls i; omega, lt⟩) sx1 ⟨by decide, by decide⟩ (by decide) hc (by rw [q 11 (by decide)]; exact v2) (by rw [q 11 (by decide), q 77 (by decide), q 50 (by decide)]; exact v3) (by rw [q 3 (by decide)]; exact n1) (by rw [q 11 (by decide), q 4 (by decide), q 38 (by decide), q 96 (by decide), q 97 (by decide), q 98 (by decide), q 99 (by decide), q 100 (by decide), q 101 (by decide), q 106 (by decide), q 107 (by decide), q 108 (by decide)]; exact b_logA) (by rw [q 11 (by decide), q 4 (by decide), q 35 (by decide), q 36 (by decide), q 37 (by decide), q 95 (by decide), q 103 (by decide), q 102 (by decide), q 104 (by decide), q 105 (by decide)]; exact b_logB) (by rw [q 11 (by decide), q 31 (by decide), q 102 (by decide), q 95 (by decide)]; exact b_lying) (fun g S hg hS => ?_)
        rw [eC] at hg
        obtain ⟨g1, g2, g3, g4⟩ := hS
        have rk : ∀ k, ¬ k = 34 → ¬ k = 29 → ¬ k = 30 → stC s1 g k = s1 k := fun k z1 z2 z3 => rC z1 z2 z3
        have rB : ∀ k, (k < 29 ∨ (30 < k ∧ k < 34) ∨ (34 < k ∧ k < 75) ∨ (75 < k ∧ k < 84) ∨ 84 < k) → stC s1 g k = B k := fun k z => by rw [rk k (by omega) (by omega) (by omega), q k (by omega)]
        rw [rB 11 (by decide), rB 38 (by decide), rB 96 (by decide), rB 97 (by decide), rB 98 (by decide), rB 99 (by decide), rB 100 (by decide), rB 101 (by decide), rB 106 (by decide), rB 107 (by decide), rB 108 (by decide)] at g2
        rw [rB 11 (by decide), rB 95 (by decide), rB 102 (by decide), rB 103 (by decide), rB 104 (by decide), rB 105 (by decide), rB 3 (by decide), q 11 (by decide), q 95 (by decide), q 102 (by decide), q 7 (by decide)] at g3
        rw [rB 11 (by decide), rB 95 (by decide), rB 102 (by decide), q 11 (by decide), q 95 (by decide), q 102 (by decide)] at g4
        have S84 : S 84 = σ 84 := by rw [g1 84 (by decide) (by decide) (by decide) (by decide) (by decide), rk 84 (by decide) (by decide) (by decide), sk 84 (by decide) (by decide)]
        have Sk : ∀ k, 83 ≤ k → S k = σ k := fun k z => by rw [g1 k (by omega) (by omega) (by omega) (by omega) (by omega), rk k (by omega) (by omega) (by omega), sk k (by omega) (by omega)]
        have S12 : S 12 = σ 12 := by rw [g1 12 (by decide) (by decide) (by decide) (by decide) (by decide), rk 12 (by decide) (by decide) (by decide), sk 12 (by decide) (by decide)]
        refine bm hI0 hc ⟨fun i hi => by rw [rs_eq, up_ne hi, S12], fun k z1 z2 => by rw [rs_ne (by omega), Sk k z1]⟩ hf2 hr ir (fun u => absurd y u) (fun _ u => absurd u z) (fun _ _ g' => ?_)
        obtain ⟨τ, eτ⟩ : ∃ τ : St, τ = st (sta (st S 12 0 0 0) 119 0 g') 84 0 c 0 := ⟨_, rfl⟩
        rw [← eτ]
        have tS : ∀ k, ¬ k = 12 → ¬ k = 84 → ¬ k = 119 → τ k = S k := fun k z1 z2 z3 => by rw [eτ, rs_ne z2, ra_ne z3, rs_ne z1]
        refine fire_end (m := 3) (g := g) hB ⟨by decide, by decide⟩ (by decide) hc hg (fun k z1 z2 z3 z4 z5 z6 z7 z8 z9 z10 z11 => ?_) (fun i hi => ?_) ?_ ?_ (by rw [tS 4 (by decide) (by decide) (by decide)]; exact g2) (by rw [tS 4 (by decide) (by decide) (by decide), tS 35 (by decide) (by decide) (by decide), tS 36 (by decide) (by decide) (by decide), tS 37 (by decide) (by decide) (by decide)]; exact g3) (by rw [tS 31 (by decide) (by decide) (by decide)]; exact g4)
        · by_cases e : k = 84
          · rw [e, eτ, eB, rs_fn, rs_fn, ra_ne (by decide), rs_ne (by decide), rs_ne (by decide), S84]
          · rw [tS k z2 e z11, g1 k z1 z5 z7 z8 z9, rk k z6 z3 z4, sB k z10 e]
        · rw [eτ, rs_ne (by decide), ra_ne (by decide), rs_eq, up_ne hi, S12, eB, rs_ne (by decide), rs_ne (by decide)]
        · rw [tS 29 (by decide) (by decide) (by decide), g1 29 (by decide) (by decide) (by decide) (by decide) (by decide), ← q 29 (by decide)]
          unfold stC
          rw [ra_ne (by decide), ra_eq]
        · rw [tS 30 (by decide) (by decide) (by decide), g1 30 (by decide) (by decide) (by decide) (by decide) (by decide), ← q 30 (by decide)]
          unfold stC
          rw [ra_eq]
    · exact bm hI0 hc ⟨fun i hi => by rw [rs_eq, up_ne hi, ra_ne (by decide)], fun k z1 z2 => by rw [rs_ne (by omega), ra_ne (by omega)]⟩ hf2 hr ir (fun _ g => ⟨rfl, Inv_q hI0⟩) (fun u => absurd u y) (fun u => absurd u y)
  · intro τ eτ
    unfold wp_X12_isCell
    exact wi_m h1 in0 ⟨by decide, by decide⟩ (fun z1 z2 => absurd ⟨z1, z2⟩ a) (fun _ => ⟨Or.inl rfl, in0, fun c => absurd rfl c, fun _ => ⟨rfl, by rw [eτ]; exact Inv_t hI0⟩⟩)
