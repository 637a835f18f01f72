/-! carry and shop -/
/-- what the class asks of the law, of sky, land and ways, is as in σ -/
def CEq (σ τ : St) : Prop := (∀ k, k = 3 ∨ k = 7 ∨ k = 8 ∨ k = 10 ∨ k = 28 ∨ k = 29 ∨ (64 ≤ k ∧ k ≤ 74) ∨ k = 78 → τ k = σ k) ∧ τ 50 10 = σ 50 10
theorem CEq.rf {σ : St} : CEq σ σ := ⟨fun _ _ => rfl, rfl⟩
theorem CEq.tr {σ τ ρ : St} (e : CEq σ τ) (f : CEq τ ρ) : CEq σ ρ := ⟨fun k hk => by rw [f.1 k hk, e.1 k hk], by rw [f.2, e.2]⟩
theorem CEq.wx {σ τ : St} (e : CEq σ τ) (w : Int) : wea τ w = wea σ w := by
  unfold wea
  rw [e.1 7 (by decide), e.1 64 (by decide), e.1 65 (by decide)]
theorem CEq.facts {n : Nat} {σ τ : St} (hI : Inv n σ) (e : CEq σ τ) : SkyX (τ 7 0) (τ 64 0) (τ 65 0) ∧ LandX (τ 28 0) (τ 29 0) (τ 3 0 6) ∧ LawXs τ ∧ (∀ f d r, BarF τ f d r → BarF σ f d r) ∧ (∀ c k f, FcWay τ c k f → FcWay σ c k f) := by
  refine ⟨?_, ?_, ?_, fun f d r h => ?_, fun c k f h => ?_⟩
  · rw [e.1 7 (by decide), e.1 64 (by decide), e.1 65 (by decide)]
    exact SkyX.of hI.1
  · rw [e.1 3 (by decide), e.1 28 (by decide), e.1 29 (by decide)]
    exact (LandX.of hI.2.1 hI.2.2.2.2.2.2.1.2.1.2).1
  · unfold LawXs
    rw [e.1 8 (by decide), e.1 66 (by decide), e.1 67 (by decide), e.1 68 (by decide), e.1 69 (by decide), e.1 70 (by decide), e.1 71 (by decide), e.1 72 (by decide), e.1 73 (by decide), e.1 74 (by decide)]
    exact LawX.of hI.2.2.2.2.2.2.2.2.2.2.2.2.1
  · unfold BarF at h ⊢
    rw [e.1 7 (by decide), e.1 8 (by decide), e.1 66 (by decide), e.1 67 (by decide), e.1 68 (by decide), e.1 69 (by decide), e.1 70 (by decide), e.1 71 (by decide), e.1 72 (by decide), e.1 73 (by decide), e.1 74 (by decide)] at h
    exact h
  · unfold FcWay at h ⊢
    rw [e.wx, e.wx, e.wx, e.1 3 (by decide), e.1 7 (by decide), e.1 28 (by decide), e.1 29 (by decide)] at h
    exact h
/-- what is borne over the way j, of the class as σ has it -/
def cyv (σ : St) (j : Nat) (r : Int) : Int := if r = -1 then brv (σ 10 j 0) (σ 28 0 (σ 10 j 2).toNat - σ 28 0 (σ 10 j 1).toNat) (wea σ 0) (wea σ 1) (seas (σ 7 0 3)) (σ 10 j 3) (σ 10 j 4) (σ 7 0 3) else 0
theorem cyv_b {n : Nat} {σ : St} {j : Nat} {r : Int} (hI : Inv n σ) : 0 ≤ cyv σ j r ∧ cyv σ j r ≤ 200 := by
  unfold cyv
  split
  · exact brv_b (wea_in (SkyX.of hI.1) 0) (wea_in (SkyX.of hI.1) 1)
  · omega
theorem qx_carryNow {n : Nat} {σ τ : St} {j : Nat} {Q : Int → St → Prop} (hI : Inv n σ) (e : CEq σ τ) (hj : (j : Int) < σ 11 0 6) (q : ∀ f r, FcWay σ (σ 10 j 1) (σ 10 j 0) f → BarF σ f 1 r → Q (cyv σ j r) (sta τ 75 0 f)) : wp_X11_carryNow τ j Q := by
  obtain ⟨⟨w7, w1⟩, ⟨e0, e1, e2, e3, e4⟩, wr⟩ := hI.2.2.2.2.2.2.2.2.1.2.1 j hj
  obtain ⟨sx, lx, lw, eb, ef⟩ := e.facts hI
  have t10 := e.1 10 (by decide)
  have t50 := e.2
  have t7 := e.1 7 (by decide)
  have hw : τ 50 10 j ≠ 0 := by rw [t50]; exact w1
  have kt := sx.1
  unfold wp_X11_carryNow
  refine sx_askOfWay sx lx hw (by rw [t10]; omega) (by rw [t10]; omega) (fun f hf => ?_)
  have hf2 := ef _ _ _ hf
  rw [t10] at hf2
  have hF := FcWay_in hI hf2 (by omega) ⟨by omega, by omega⟩
  refine sx_barF lw (by omega) in1 hF (fun r hr => ?_)
  have hr2 := eb _ _ _ hr
  have rb := barF_b lw hr
  have qq := q f r hf2 hr2
  unfold cyv at qq
  refine ⟨⟨by omega, by omega⟩, fun c => ⟨by rw [ra_ne (by decide)]; exact hw, ?_⟩, fun c => ?_⟩
  · rw [if_pos c] at qq
    have r10 : sta τ 75 0 f 10 = σ 10 := by rw [ra_ne (by decide), t10]
    have r28 : sta τ 75 0 f 28 = σ 28 := by rw [ra_ne (by decide), e.1 28 (by decide)]
    have r7 : sta τ 75 0 f 7 = σ 7 := by rw [ra_ne (by decide), t7]
    have rw0 : ∀ w, wea (sta τ 75 0 f) w = wea σ w := fun w => by rw [wea_st (by decide) (by decide) (by decide), e.wx]
    refine sx_bears ?_ ?_ (by rw [ra_ne (by decide)]; exact hw) (by rw [r10]; omega) (by rw [r10]; omega) (by rw [r10]; omega) (by rw [r10]; omega) (by rw [r10]; omega) ?_
    · rw [r7, ra_ne (by decide), ra_ne (by decide), ← t7]
      exact sx
    · rw [r28]
      exact hI.2.1.2.2.1
    · rw [r10, r28, r7, rw0, rw0]
      exact qq
  · rw [if_neg c] at qq
    exact qq
theorem qm_carryOf {n : Nat} {σ τ : St} {j : Nat} {x1 r : Int} {f : Nat → Int} {Q : Int → St → Prop} (hI : Inv n σ) (em : MEq σ τ) (hx : x1 = (j : Int)) (hj : (j : Int) < σ 11 0 6) (hf : FcWay σ (σ 10 j 1) (σ 10 j 0) f) (hr : BarF σ f 1 r) (q : ∀ g, Q (cyv σ j r) (sta τ 119 0 g)) : wp_X12_carryOf τ x1 Q := by
  obtain ⟨⟨w7, w1⟩, ⟨e0, e1, e2, e3, e4⟩, wr⟩ := hI.2.2.2.2.2.2.2.2.1.2.1 j hj
  have wc := hI.2.2.2.2.2.2.2.2.1.1
  have rb := barF_b (LawX.of hI.2.2.2.2.2.2.2.2.2.2.2.2.1) hr
  obtain ⟨sr, ly, -, ⟨e5, e6, e7, e8⟩, tt, ww0, ww1, ww2⟩ := em.facts hI
  subst hx
  unfold wp_X12_carryOf wp_X12_barringWay
  rw [Int.toNat_natCast, em.2 121 (by decide) (by decide), ← e1]
  refine ⟨by omega, by omega, ?_⟩
  refine sm_asks sr (by omega) (by omega) ly.1 (fun z => absurd z (by omega)) (fun _ g hg => ⟨by omega, by omega, fun s1 es => ?_⟩)
  rw [st_stae, ra_ne (show ¬ 120 = 119 by decide), em.2 120 (by decide) (by decide), ← e0] at es
  rw [es]
  rw [e5, e6, e7, e8, ww0, ww1, ww2] at hg
  have hg2 : FcWay σ (σ 10 j 1) (σ 10 j 0) (up g (Int.toNat 12) (σ 10 j 0)) := by
    obtain ⟨⟨f0, f1, f2, f3⟩, ⟨f4, f5, f6, f7, f8⟩, f9, f10, f11, f12⟩ := hg
    refine ⟨?_, ?_, ?_, ?_, ?_, ?_, ?_, ?_, ?_, ?_, ?_, ?_, ?_⟩ <;> simp (decide := true) only [up, ite_true, ite_false, f0, f1, f2, f3, f4, f5, f6, f7, f8, f9, f10, f11]
  refine qm_bar hI em (FcWay_in hI hg2 (by omega) ⟨by omega, by omega⟩) (Fc_eq hf hg2) ⟨by decide, by decide⟩ hr ?_
  have qq := q (up g (Int.toNat 12) (σ 10 j 0))
  unfold cyv at qq
  refine ⟨⟨by omega, by omega⟩, fun c => ?_, fun c => ?_⟩
  · rw [if_neg c] at qq
    exact qq
  · rw [if_pos c] at qq
    generalize up g (Int.toNat 12) (σ 10 j 0) = gg at qq ⊢
    have r : ∀ k, ¬ k = 119 → sta τ 119 0 gg k = τ k := fun k hk => ra_ne hk
    have rw0 : ∀ w, weaM (sta τ 119 0 gg) w = weaM τ w := fun w => weaM_st (by decide) (by decide) (by decide) (by decide) (by decide)
    have wb0 := wea_in (SkyX.of hI.1) 0
    have wb1 := wea_in (SkyX.of hI.1) 1
    refine sm_bears ?_ ?_ ?_ ?_ (by omega) ?_ ?_ ?_ ?_ ?_ ?_
    · rw [r 12 (by decide), r 88 (by decide)]
      exact sr
    · rw [rw0, ww0]
      exact wb0
    · rw [rw0, ww1]
      exact wb1
    · rw [r 83 (by decide)]
      exact ly.2.1
    · rw [r 120 (by decide), em.2 120 (by decide) (by decide), Int.toNat_natCast]
      omega
    · rw [r 121 (by decide), em.2 121 (by decide) (by decide), Int.toNat_natCast]
      omega
    · rw [r 122 (by decide), em.2 122 (by decide) (by decide), Int.toNat_natCast]
      omega
    · rw [r 123 (by decide), em.2 123 (by decide) (by decide), Int.toNat_natCast]
      omega
    · rw [r 124 (by decide), em.2 124 (by decide) (by decide), Int.toNat_natCast]
      omega
    · rw [rw0, rw0, ww0, ww1, r 12 (by decide), e5, r 83 (by decide), e7, r 120 (by decide), em.2 120 (by decide) (by decide), r 121 (by decide), em.2 121 (by decide) (by decide), r 122 (by decide), em.2 122 (by decide) (by decide), r 123 (by decide), em.2 123 (by decide) (by decide), r 124 (by decide), em.2 124 (by decide) (by decide), Int.toNat_natCast, ← e0, ← e1, ← e2, ← e3, ← e4]
      exact qq
theorem op_carry {n : Nat} {σ : St} {x1 : Int} (hI : Inv n σ) (h1 : inR x1) : wp_X11_carry σ x1 (fun r σ1 => wp_X12_carry σ1 x1 (fun r2 σ2 => r2 = r ∧ Inv (n + 1) σ2)) := by
  have hI0 := hI
  obtain ⟨a_sky, a_land, a_price, a_ints, a_logA, a_logB, a_live, a_lying, a_ways, a_crews, a_dbl, a_tape, a_law, a_ord, a_spur, a_cuts, a_cru, a_kf, a_tn⟩ := hI
  have v1 := a_ways.1
  unfold wp_X11_carry
  refine wayAt_x a_ways h1 (fun u1 u2 => ?_) (fun u => ?_)
  · refine qx_carryNow hI0 CEq.rf (j := x1.toNat) (by omega) (fun f r hf hr => ?_)
    intro τ eτ
    have t1 : τ 12 0 53 = σ 12 0 53 := by rw [eτ, rs_eq, up_ne (by decide), ra_ne (by decide)]
    have em : MEq σ τ := by rw [eτ]; exact MEq_q
    unfold wp_X12_isWay
    refine wi_m h1 in0 ⟨by omega, by omega⟩ (fun _ _ => ⟨Or.inr rfl, in1, fun c => absurd c (by decide), fun _ => ?_⟩) (fun a => absurd (by omega) a)
    exact qm_carryOf hI0 em (j := x1.toNat) (by omega) (by omega) hf hr (fun g => ⟨rfl, by rw [eτ]; exact Inv_q hI0⟩)
  · intro τ eτ
    have t1 : τ 12 0 53 = σ 12 0 53 := by rw [eτ, rs_eq, up_ne (by decide)]
    unfold wp_X12_isWay
    exact wi_m h1 in0 ⟨by omega, by omega⟩ (fun _ _ => absurd (by omega) u) (fun a => ⟨Or.inl rfl, in0, fun _ => ⟨rfl, by rw [eτ]; exact Inv_t hI0⟩, fun c => absurd rfl c⟩)
theorem I_crews_owe {cc cc2 lc today w : Int} {C : Nat → Nat → Int} {f79 a1 b2 e2 o2 p2 l2 : Nat → Int} {j : Nat} (h : I_crews cc cc2 lc today C f79 a1 b2 e2 o2 p2 l2) (hj : (j : Int) < cc) (h0 : 0 ≤ w) (h1 : w ≤ 10000 * (today + 1)) : I_crews cc cc2 lc today (upj C j 2 w) f79 a1 b2 e2 (up o2 j w) p2 l2 := by
  obtain ⟨s1, s4, s5⟩ := h
  refine ⟨s1, fun i hi => ?_, fun i hi => ?_⟩
  · by_cases q : i = j
    · subst q
      obtain ⟨p1, ⟨c0, c1, c2, c3, c4⟩, p3⟩ := s4 i hi
      rw [up_eq, upj_eq, up_eq, up_ne (by decide), up_ne (by decide), up_ne (by decide), up_ne (by decide)]
      exact ⟨p1, ⟨c0, c1, rfl, c3, c4⟩, by omega⟩
    · rw [up_ne q, upj_ne q]
      exact s4 i hi
  · rw [up_ne (by omega)]
    exact s5 i hi
theorem op_shop {n : Nat} {σ : St} {x1 x2 : Int} (hI : Inv n σ) (h1 : inR x1) (h2 : inR x2) : wp_X11_shop σ x1 x2 (fun r σ1 => wp_X12_shop σ1 x1 x2 (fun r2 σ2 => r2 = r ∧ Inv (n + 1) σ2)) := by
  have hI0 := hI
  obtain ⟨a_sky, a_land, a_price, a_ints, a_logA, a_logB, a_live, a_lying, a_ways, a_crews, a_dbl, a_tape, a_law, a_ord, a_spur, a_cuts, a_cru, a_kf, a_tn⟩ := hI
  have v1 := a_crews.1
  have v2 := a_live.2.1
  obtain ⟨-, k4, -⟩ := id a_sky
  have fc : 0 ≤ x1 ∧ x1 < σ 11 0 11 → _ := fun hx => a_crews.2.1 x1.toNat (by omega)
  have hno : ¬ (0 ≤ x1 ∧ x1 < σ 11 0 11 ∧ σ 1 x1.toNat 4 = 0 ∧ 1 ≤ x2 ∧ x2 ≤ 999) → wp_X12_shop σ x1 x2 (fun r2 σ2 => r2 = -1 ∧ Inv (n + 1) σ2) := by
    intro hc τ eτ
    have t1 : τ 12 0 60 = σ 12 0 60 := by rw [eτ, rs_eq, up_ne (by decide)]
    have t2 : τ 129 = σ 129 := by rw [eτ, rs_ne (by decide)]
    have hi : Inv (n + 1) τ := by rw [eτ]; exact Inv_t hI0
    unfold wp_X12_isCrew
    refine wi_m h1 in0 ⟨by omega, by omega⟩ (fun a b => ⟨Or.inr rfl, in1, fun c => absurd c (by decide), fun _ => ?_⟩) (fun a => ⟨Or.inl rfl, in0, fun _ => ⟨rfl, hi⟩, fun c => absurd rfl c⟩)
    obtain ⟨-, ⟨e0, e1, e2, e3, e4⟩, wr⟩ := fc (by omega)
    rw [t2]
    refine ⟨by omega, by omega, ⟨by omega, by omega⟩, fun _ => ⟨rfl, hi⟩, fun c => wi_m h2 in1 ⟨by decide, by decide⟩ (fun a2 b2 => absurd (by omega) hc) (fun a => ⟨in0, fun c => absurd rfl c, fun _ => ⟨rfl, hi⟩⟩)⟩
  unfold wp_X11_shop
  refine crewAt_x a_crews h1 (fun u1 u2 => ?_) (fun u => hno (by omega))
  obtain ⟨⟨w7, w1⟩, ⟨e0, e1, e2, e3, e4⟩, wr⟩ := fc (by omega)
  refine ⟨w1, ⟨by omega, by omega⟩, fun c => hno (by omega), fun c => wi_x h2 in1 ⟨by decide, by decide⟩ (fun a2 b2 => ⟨in1, fun _ => ⟨w1, ?_⟩, fun c => absurd c (by decide)⟩) (fun a => ⟨in0, fun c => absurd rfl c, fun _ => hno (by omega)⟩)⟩
  refine qx_numberFor hI0 h1 (by decide) (fun f r hf hr rb => ?_)
  have hl : sta σ 75 0 f 50 = σ 50 := ra_ne (by decide)
  have hc1 : sta σ 75 0 f 1 = σ 1 := ra_ne (by decide)
  have mm : ∀ (s : St) (P : Int → St → Prop), MEq σ s → s 127 = σ 127 → (∀ g, σ 127 0 x1.toNat + x2 ≤ r → P (σ 127 0 x1.toNat + x2) (st (sta (st s 12 0 0 0) 119 0 g) 127 0 x1.toNat (σ 127 0 x1.toNat + x2))) → (∀ g, ¬ σ 127 0 x1.toNat + x2 ≤ r → P (-2) (sta (st s 12 0 0 0) 119 0 g)) → wp_X12_shop s x1 x2 P := by
    intro s P es e127 p1 p0 τ eτ
    have em : MEq σ τ := by
      refine ⟨fun i hi => ?_, fun k h1 h2 => ?_⟩
      · rw [eτ, rs_eq, up_ne hi, es.1 i hi]
      · rw [eτ, rs_ne (by omega), es.2 k h1 h2]
    have t1 : τ 12 0 60 = σ 12 0 60 := em.1 60 (by decide)
    have t2 : τ 129 = σ 129 := em.2 129 (by decide) (by decide)
    have t3 : τ 127 = σ 127 := by rw [eτ, rs_ne (by decide), e127]
    unfold wp_X12_isCrew
    refine wi_m h1 in0 ⟨by omega, by omega⟩ (fun _ _ => ⟨Or.inr rfl, in1, fun c => absurd c (by decide), fun _ => ?_⟩) (fun a => absurd (by omega) a)
    rw [t2]
    refine ⟨by omega, by omega, ⟨by omega, by omega⟩, fun z => absurd (by omega) z, fun _ => wi_m h2 in1 ⟨by decide, by decide⟩ (fun _ _ => ⟨in1, fun _ => ⟨by omega, by omega, ?_⟩, fun c => absurd c (by decide)⟩) (fun a => absurd ⟨a2, b2⟩ a)⟩
    refine qm_dueOf hI0 em h1 (by decide) hf hr (fun g => ?_)
    rw [t3, ra_ne (show ¬ 127 = 119 by decide), t3]
    refine ⟨⟨by omega, by omega⟩, ⟨by omega, by omega⟩, fun d => ⟨by omega, by omega, by omega, by omega, fun s9 e9 => ⟨by omega, by omega, ?_⟩⟩, fun d => ?_⟩
    · have q := p1 g d
      rw [← eτ, ← e9] at q
      rw [show s9 127 0 (Int.toNat x1) = σ 127 0 x1.toNat + x2 by rw [e9, rs_eq, up_eq]]
      exact q
    · have q := p0 g d
      rw [← eτ] at q
      exact q
  refine ⟨⟨by omega, by omega⟩, ⟨by omega, by omega⟩, fun d => ⟨by rw [hl]; exact w1, by rw [hl]; exact w1, fun s9 e9 => ?_⟩, fun d => ?_⟩
  · rw [hc1] at e9
    have l9 : s9 50 = σ 50 := by rw [e9, rs_ne (by decide), hl]
    have r9 : s9 1 x1.toNat 2 = σ 1 x1.toNat 2 + x2 := by rw [e9, rs_eq, up_eq]
    rw [r9]
    refine ⟨by rw [l9]; exact w1, mm s9 _ ⟨fun i hi => by rw [e9, rs_ne (by decide), ra_ne (by decide)], fun k h1 h2 => by rw [e9, rs_ne (by omega), ra_ne (by omega)]⟩ (by rw [e9, rs_ne (by decide), ra_ne (by decide)]) (fun g hd => ⟨by omega, ?_⟩) (fun g hd => absurd (by omega) hd)⟩
    rw [e9, ← e2]
    unfold Inv
    simp (decide := true) only [rs_ne, rs_fn, upj_eq, upj_ne, up_eq, up_ne, ra_ne, ra_fn, upr_eq, upr_ne, not_false_eq_true, ne_eq]
    refine ⟨?_, ?_, ?_, ?_, ?_, ?_, ?_, ?_, ?_, ?_, ?_, ?_, ?_, ?_, ?_, ?_, ?_, ?_, ?_⟩
    · exact a_sky
    · exact a_land
    · exact a_price
    · exact I_ints_up a_ints
    · exact a_logA
    · exact a_logB
    · exact a_live
    · exact a_lying
    · exact a_ways
    · exact I_crews_owe a_crews (by omega) (by omega) (by omega)
    · exact a_dbl
    · exact a_tape
    · exact a_law
    · exact a_ord
    · exact a_spur
    · exact a_cuts
    · exact a_cru
    · exact a_kf
    · exact a_tn
  · refine mm _ _ ⟨fun i hi => by rw [ra_ne (by decide)], fun k h1 h2 => by rw [ra_ne (by omega)]⟩ (ra_ne (by decide)) (fun g hd => absurd (by omega) d) (fun g hd => ⟨rfl, ?_⟩)
    exact Inv_q hI0
