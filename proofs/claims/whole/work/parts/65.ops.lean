/-! why, whyWay, due, carry, shop -/
/-- the reference's rows are those of σ, but for what was thrown and what was asked -/
def MEq (σ τ : St) : Prop := (∀ i, i ≠ 0 → τ 12 0 i = σ 12 0 i) ∧ ∀ k, 83 ≤ k → (k < 93 ∨ (108 < k ∧ k < 119) ∨ (119 < k ∧ k < 126) ∨ 128 < k) → τ k = σ k
theorem MEq.wm {σ τ : St} (e : MEq σ τ) (w : Int) : weaM τ w = weaM σ w := by
  unfold weaM
  rw [e.1 1 (by decide), e.1 8 (by decide), e.2 88 (by decide) (by decide), e.2 89 (by decide) (by decide), e.2 90 (by decide) (by decide), e.2 91 (by decide) (by decide)]
theorem Inv_q {n : Nat} {σ : St} {f g : Nat → Int} {v : Int} (hI : Inv n σ) : Inv (n + 1) (sta (st (sta σ 75 0 f) 12 0 0 v) 119 0 g) := by
  obtain ⟨a_sky, a_land, a_price, a_ints, a_logA, a_logB, a_live, a_lying, a_ways, a_crews, a_dbl, a_tape, a_law, a_ord, a_spur, a_cuts, a_cru, a_kf, a_tn⟩ := hI
  unfold Inv
  simp (decide := true) only [rs_ne, rs_fn, upj_eq, upj_ne, up_eq, up_ne, ra_ne, ra_fn, upr_eq, upr_ne, not_false_eq_true, ne_eq]
  refine ⟨?_, ?_, ?_, ?_, ?_, ?_, ?_, ?_, ?_, ?_, ?_, ?_, ?_, ?_, ?_, ?_, ?_, ?_, ?_⟩
  · exact a_sky
  · exact a_land
  · exact a_price
  · exact I_ints_up a_ints
  · exact a_logA
  · exact a_logB
  · exact a_live
  · exact a_lying
  · exact a_ways
  · exact a_crews
  · exact a_dbl
  · exact a_tape
  · exact a_law
  · exact a_ord
  · exact a_spur
  · exact a_cuts
  · exact a_cru
  · exact a_kf
  · exact a_tn
theorem Inv_q1 {n : Nat} {σ : St} {f : Nat → Int} {v : Int} (hI : Inv n σ) : Inv (n + 1) (st (sta σ 75 0 f) 12 0 0 v) := by
  obtain ⟨a_sky, a_land, a_price, a_ints, a_logA, a_logB, a_live, a_lying, a_ways, a_crews, a_dbl, a_tape, a_law, a_ord, a_spur, a_cuts, a_cru, a_kf, a_tn⟩ := hI
  unfold Inv
  simp (decide := true) only [rs_ne, rs_fn, upj_eq, upj_ne, up_eq, up_ne, ra_ne, ra_fn, upr_eq, upr_ne, not_false_eq_true, ne_eq]
  refine ⟨?_, ?_, ?_, ?_, ?_, ?_, ?_, ?_, ?_, ?_, ?_, ?_, ?_, ?_, ?_, ?_, ?_, ?_, ?_⟩
  · exact a_sky
  · exact a_land
  · exact a_price
  · exact I_ints_up a_ints
  · exact a_logA
  · exact a_logB
  · exact a_live
  · exact a_lying
  · exact a_ways
  · exact a_crews
  · exact a_dbl
  · exact a_tape
  · exact a_law
  · exact a_ord
  · exact a_spur
  · exact a_cuts
  · exact a_cru
  · exact a_kf
  · exact a_tn
theorem MEq_q {σ : St} {f : Nat → Int} {v : Int} : MEq σ (st (sta σ 75 0 f) 12 0 0 v) := by
  refine ⟨fun i hi => ?_, fun k h1 h2 => ?_⟩
  · rw [rs_eq, up_ne hi, ra_ne (by decide)]
  · rw [rs_ne (by omega), ra_ne (by omega)]
theorem MEq_t {σ : St} {v : Int} : MEq σ (st σ 12 0 0 v) := by
  refine ⟨fun i hi => ?_, fun k h1 h2 => ?_⟩
  · rw [rs_eq, up_ne hi]
  · rw [rs_ne (by omega)]
def FcCut (σ : St) (x1 x2 x3 x4 : Int) (f : Nat → Int) : Prop := Fc f x2 (σ 28 0 x2.toNat) x3 x4 (seas (σ 7 0 3)) (σ 7 0 3) (wea σ 0) (wea σ 1) (wea σ 2) (apv x2 (σ 3 0 6)) (σ 29 0 x2.toNat) x1 0
def FcWay (σ : St) (c k : Int) (f : Nat → Int) : Prop := Fc f c (σ 28 0 c.toNat) 0 0 (seas (σ 7 0 3)) (σ 7 0 3) (wea σ 0) (wea σ 1) (wea σ 2) (apv c (σ 3 0 6)) (σ 29 0 c.toNat) 0 k
def FcCrew (σ : St) (c : Int) (f : Nat → Int) : Prop := Fc f 0 0 0 0 (seas (σ 7 0 3)) (σ 7 0 3) (wea σ 0) (wea σ 1) (wea σ 2) 0 0 c 0
theorem FcCut_in {n : Nat} {σ : St} (hI : Inv n σ) {x1 x2 x3 x4 : Int} {f : Nat → Int} (h : FcCut σ x1 x2 x3 x4 f) (h1 : inR x1) (h2 : 0 ≤ x2 ∧ x2 ≤ 63) (h3 : inR x3) (h4 : inR x4) : ∀ i, i < 13 → inR (f i) := by
  obtain ⟨a_sky, a_land, a_price, a_ints, a_logA, a_logB, a_live, a_lying, a_ways, a_crews, a_dbl, a_tape, a_law, a_ord, a_spur, a_cuts, a_cru, a_kf, a_tn⟩ := hI
  have sx := SkyX.of a_sky
  obtain ⟨lx, -⟩ := LandX.of a_land a_live.2.1.2
  have ap := apv_b h2.1 h2.2 lx.1.1 lx.1.2
  have b1 := lx.2.1 x2.toNat
  have b2 := lx.2.2 x2.toNat
  have kt := sx.1
  exact Fc_in h ⟨by omega, by omega⟩ ⟨by omega, by omega⟩ h3 h4 (seas_in (by omega)) ⟨by omega, by omega⟩ (sm_in (wea_in sx 0)) (sm_in (wea_in sx 1)) (sm_in (wea_in sx 2)) ⟨by omega, by omega⟩ ⟨by omega, by omega⟩ h1 in0
theorem FcWay_in {n : Nat} {σ : St} (hI : Inv n σ) {c k : Int} {f : Nat → Int} (h : FcWay σ c k f) (h2 : 0 ≤ c ∧ c ≤ 63) (h3 : inR k) : ∀ i, i < 13 → inR (f i) := by
  obtain ⟨a_sky, a_land, a_price, a_ints, a_logA, a_logB, a_live, a_lying, a_ways, a_crews, a_dbl, a_tape, a_law, a_ord, a_spur, a_cuts, a_cru, a_kf, a_tn⟩ := hI
  have sx := SkyX.of a_sky
  obtain ⟨lx, -⟩ := LandX.of a_land a_live.2.1.2
  have ap := apv_b h2.1 h2.2 lx.1.1 lx.1.2
  have b1 := lx.2.1 c.toNat
  have b2 := lx.2.2 c.toNat
  have kt := sx.1
  exact Fc_in h ⟨by omega, by omega⟩ ⟨by omega, by omega⟩ in0 in0 (seas_in (by omega)) ⟨by omega, by omega⟩ (sm_in (wea_in sx 0)) (sm_in (wea_in sx 1)) (sm_in (wea_in sx 2)) ⟨by omega, by omega⟩ ⟨by omega, by omega⟩ in0 h3
theorem FcCrew_in {n : Nat} {σ : St} (hI : Inv n σ) {c : Int} {f : Nat → Int} (h : FcCrew σ c f) (h3 : inR c) : ∀ i, i < 13 → inR (f i) := by
  obtain ⟨a_sky, a_land, a_price, a_ints, a_logA, a_logB, a_live, a_lying, a_ways, a_crews, a_dbl, a_tape, a_law, a_ord, a_spur, a_cuts, a_cru, a_kf, a_tn⟩ := hI
  have sx := SkyX.of a_sky
  have kt := sx.1
  exact Fc_in h in0 in0 in0 in0 (seas_in (by omega)) ⟨by omega, by omega⟩ (sm_in (wea_in sx 0)) (sm_in (wea_in sx 1)) (sm_in (wea_in sx 2)) in0 in0 h3 in0
/-- what MEq keeps of σ, as the reference's own rows need it -/
theorem MEq.facts {n : Nat} {σ τ : St} (hI : Inv n σ) (e : MEq σ τ) : SkyR (τ 12 0 1) (τ 12 0 8) (τ 88 0) ∧ LandX (τ 83 0) (τ 84 0) (τ 12 0 7) ∧ LawRs τ ∧ (τ 12 0 1 = σ 7 0 3 ∧ τ 12 0 7 = σ 3 0 6 ∧ τ 83 0 = σ 28 0 ∧ τ 84 0 = σ 29 0) ∧ (0 ≤ τ 12 0 1 ∧ τ 12 0 1 ≤ 3999) ∧ (weaM τ 0 = wea σ 0 ∧ weaM τ 1 = wea σ 1 ∧ weaM τ 2 = wea σ 2) := by
  obtain ⟨a_sky, a_land, a_price, a_ints, a_logA, a_logB, a_live, a_lying, a_ways, a_crews, a_dbl, a_tape, a_law, a_ord, a_spur, a_cuts, a_cru, a_kf, a_tn⟩ := hI
  obtain ⟨⟨k1, k2, k3⟩, k4, -⟩ := id a_sky
  obtain ⟨⟨l1, l2, l3, l4, l5, l6⟩, -⟩ := id a_land
  have ly := (LandX.of a_land a_live.2.1.2).2
  have sr := SkyR.of a_sky
  have lr := LawR.of a_law
  have w0 := wea_eq a_sky (what := 0) (by decide) (by decide)
  have w1 := wea_eq a_sky (what := 1) (by decide) (by decide)
  have w2 := wea_eq a_sky (what := 2) (by decide) (by decide)
  refine ⟨?_, ?_, ?_, ⟨?_, ?_, ?_, ?_⟩, ?_, ?_, ?_, ?_⟩
  · rw [e.1 1 (by decide), e.1 8 (by decide), e.2 88 (by decide) (by decide)]
    exact sr
  · rw [e.1 7 (by decide), e.2 83 (by decide) (by decide), e.2 84 (by decide) (by decide)]
    exact ly
  · unfold LawRs
    rw [e.1 33 (by decide), e.2 109 (by decide) (by decide), e.2 110 (by decide) (by decide), e.2 111 (by decide) (by decide), e.2 112 (by decide) (by decide), e.2 113 (by decide) (by decide), e.2 114 (by decide) (by decide), e.2 115 (by decide) (by decide), e.2 116 (by decide) (by decide), e.2 117 (by decide) (by decide)]
    exact lr
  · rw [e.1 1 (by decide), k2]
  · rw [e.1 7 (by decide), l6]
  · rw [e.2 83 (by decide) (by decide), l1]
  · rw [e.2 84 (by decide) (by decide), l2]
  · rw [e.1 1 (by decide)]
    omega
  · rw [e.wm, w0]
  · rw [e.wm, w1]
  · rw [e.wm, w2]
theorem qm_cut {n : Nat} {σ τ : St} {x1 x2 x3 x4 : Int} {Q : St → Prop} (hI : Inv n σ) (e : MEq σ τ) (h2 : 0 ≤ x2 ∧ x2 ≤ 63) (q : ∀ g, FcCut σ x1 x2 x3 x4 g → Q (sta τ 119 0 g)) : wp_X12_asksCut τ x1 x2 x3 x4 Q := by
  obtain ⟨sr, ly, -, ⟨e1, e2, e3, e4⟩, -, w0, w1, w2⟩ := e.facts hI
  refine sm_asksCut sr ly h2.1 h2.2 (fun g hg => q g ?_)
  rw [e1, e2, e3, e4, w0, w1, w2] at hg
  exact hg
theorem qm_bar {n : Nat} {σ τ : St} {f g : Nat → Int} {deed r : Int} {Q : Int → St → Prop} (hI : Inv n σ) (e : MEq σ τ) (hF : ∀ i, i < 13 → inR (g i)) (hfg : ∀ i, i < 13 → g i = f i) (hd : 0 ≤ deed ∧ deed ≤ 2) (hr : BarF σ f deed r) (q : Q r (sta τ 119 0 g)) : wp_X12_barring (sta τ 119 0 g) deed Q := by
  obtain ⟨-, -, lr, ⟨e1, -⟩, tt, -⟩ := e.facts hI
  refine sm_barG lr tt ⟨by omega, by omega⟩ hF (fun r2 hr2 => ?_)
  unfold BarG at hr2
  rw [e1, e.1 33 (by decide), e.2 109 (by decide) (by decide), e.2 110 (by decide) (by decide), e.2 111 (by decide) (by decide), e.2 113 (by decide) (by decide), e.2 114 (by decide) (by decide), e.2 115 (by decide) (by decide), e.2 116 (by decide) (by decide), e.2 117 (by decide) (by decide)] at hr2
  have := bar_eq hI.2.2.2.2.2.2.2.2.2.2.2.2.1 hfg hd hr hr2
  rw [this]
  exact q
theorem qm_num {n : Nat} {σ τ : St} {f g : Nat → Int} {verb so r : Int} {Q : Int → St → Prop} (hI : Inv n σ) (e : MEq σ τ) (hF : ∀ i, i < 13 → inR (g i)) (hfg : ∀ i, i < 13 → g i = f i) (hd : 1 ≤ verb ∧ verb ≤ 3) (hs : so = verb + 2) (hr : NumF σ f verb r) (q : 0 ≤ r ∧ r ≤ 9999 → Q r (sta τ 119 0 g)) : wp_X12_lastOf (sta τ 119 0 g) so Q := by
  obtain ⟨-, -, lr, ⟨e1, -⟩, tt, -⟩ := e.facts hI
  refine sm_numG lr tt (by omega) hF (fun r2 hr2 => ?_)
  unfold NumG at hr2
  rw [e1, e.1 33 (by decide), e.2 109 (by decide) (by decide), e.2 110 (by decide) (by decide), e.2 111 (by decide) (by decide), e.2 112 (by decide) (by decide), e.2 113 (by decide) (by decide), e.2 114 (by decide) (by decide), e.2 115 (by decide) (by decide), e.2 116 (by decide) (by decide), e.2 117 (by decide) (by decide)] at hr2
  have := num_eq hI.2.2.2.2.2.2.2.2.2.2.2.2.1 hfg hd hs hr hr2
  rw [this.1]
  exact q this.2
/-- the number's range, of the class alone -/
theorem numF_b {n : Nat} {σ : St} {f : Nat → Int} {verb r : Int} (hI : Inv n σ) (hd : 1 ≤ verb ∧ verb ≤ 3) (hr : NumF σ f verb r) : 0 ≤ r ∧ r ≤ 9999 := by
  have hl := hI.2.2.2.2.2.2.2.2.2.2.2.2.1
  obtain ⟨-, -, f3⟩ := force_eq (today := σ 7 0 3) hl
  rcases hr with ⟨a1, -⟩ | ⟨k, a1, hk, hm, -⟩
  · rw [a1]
    unfold dflt
    split
    · omega
    · split <;> omega
  · obtain ⟨g1, g2⟩ := f3 k hk
    obtain ⟨-, g4⟩ := hl.2 _ g1
    obtain ⟨⟨s1, s2, s3, s4⟩, s5⟩ := g4 k g2
    have := hm.1
    dsimp only at a1
    rcases s1 with s1 | s1 <;> omega
theorem qx_cut {n : Nat} {σ : St} {x1 x2 x3 x4 : Int} {Q : St → Prop} (hI : Inv n σ) (h2 : 0 ≤ x2 ∧ x2 ≤ 63) (q : ∀ f, FcCut σ x1 x2 x3 x4 f → Q (sta σ 75 0 f)) : wp_X11_askOfCut σ x1 x2 x3 x4 Q :=
  sx_askOfCut (SkyX.of hI.1) (LandX.of hI.2.1 hI.2.2.2.2.2.2.1.2.1.2).1 h2.1 h2.2 q
theorem qx_bar {n : Nat} {σ : St} {f : Nat → Int} {deed : Int} {Q : Int → St → Prop} (hI : Inv n σ) (hd : inR deed) (hF : ∀ i, i < 13 → inR (f i)) (q : ∀ r, BarF σ f deed r → Q r (sta σ 75 0 f)) : wp_X8_barring (sta σ 75 0 f) ((sta σ 75 0 f) 7 0 3) deed Q :=
  sx_barF (LawX.of hI.2.2.2.2.2.2.2.2.2.2.2.2.1) hI.1.2.1.2.2 hd hF q
theorem qx_num {n : Nat} {σ : St} {f : Nat → Int} {verb : Int} {Q : Int → St → Prop} (hI : Inv n σ) (hd : 1 ≤ verb ∧ verb ≤ 3) (hF : ∀ i, i < 13 → inR (f i)) (q : ∀ r, NumF σ f verb r → Q r (sta σ 75 0 f)) : wp_X8_numberOn (sta σ 75 0 f) ((sta σ 75 0 f) 7 0 3) verb Q :=
  sx_numF (LawX.of hI.2.2.2.2.2.2.2.2.2.2.2.2.1) hI.1.2.1.2.2 hd hF q
theorem barF_b {σ : St} {f : Nat → Int} {deed r : Int} (hl : LawXs σ) (h : BarF σ f deed r) : -1 ≤ r ∧ r ≤ 12 := by
  rcases h with ⟨a, -⟩ | ⟨k, a, hk, -⟩
  · omega
  · have lb := lat_b (σ 66 0) (σ 7 0 3) (σ 8 0 10).toNat
    obtain ⟨h1, h2⟩ := hl
    unfold tmany tforce at hk
    by_cases c : lat (σ 66 0) (σ 7 0 3) (σ 8 0 10).toNat = -1
    · rw [if_pos c] at hk
      omega
    · rw [if_neg c] at hk
      have := (h2 (lat (σ 66 0) (σ 7 0 3) (σ 8 0 10).toNat).toNat (by omega)).1
      omega
theorem op_why {n : Nat} {σ : St} {x1 x2 x3 x4 : Int} (hI : Inv n σ) (h1 : inR x1) (h2 : inR x2) (h3 : inR x3) (h4 : inR x4) : wp_X11_why σ x1 x2 x3 x4 (fun r σ1 => wp_X12_why σ1 x1 x2 x3 x4 (fun r2 σ2 => r2 = r ∧ Inv (n + 1) σ2)) := by
  have hI0 := hI
  obtain ⟨a_sky, a_land, a_price, a_ints, a_logA, a_logB, a_live, a_lying, a_ways, a_crews, a_dbl, a_tape, a_law, a_ord, a_spur, a_cuts, a_cru, a_kf, a_tn⟩ := hI
  have v1 := a_crews.1
  have hno : ¬ (0 ≤ x1 ∧ x1 < σ 11 0 11 ∧ 0 ≤ x2 ∧ x2 ≤ 63 ∧ 0 ≤ x3 ∧ x3 ≤ 3 ∧ 0 ≤ x4 ∧ x4 ≤ 3) → wp_X12_why σ x1 x2 x3 x4 (fun r2 σ2 => r2 = -2 ∧ Inv (n + 1) σ2) := by
    intro hc τ eτ
    have t1 : τ 12 0 60 = σ 12 0 60 := by rw [eτ, rs_eq, up_ne (by decide)]
    have hi : Inv (n + 1) τ := by rw [eτ]; exact Inv_t hI0
    unfold wp_X12_isCrew wp_X12_isCell wp_X12_isStem
    refine wi_m h1 in0 ⟨by omega, by omega⟩ (fun a b => ⟨Or.inr rfl, in1, fun c => absurd c (by decide), fun _ => ?_⟩) (fun a => ⟨Or.inl rfl, in0, fun _ => ⟨rfl, hi⟩, fun c => absurd rfl c⟩)
    refine wi_m h2 in0 ⟨by decide, by decide⟩ (fun a2 b2 => ⟨Or.inr rfl, in1, fun c => absurd c (by decide), fun _ => ?_⟩) (fun a => ⟨Or.inl rfl, in0, fun _ => ⟨rfl, hi⟩, fun c => absurd rfl c⟩)
    refine wi_m h3 in0 ⟨by decide, by decide⟩ (fun a3 b3 => ⟨in1, fun c => absurd c (by decide), fun _ => ?_⟩) (fun a => ⟨in0, fun _ => ⟨in0, fun c => absurd rfl c, fun _ => ⟨rfl, hi⟩⟩, fun c => absurd rfl c⟩)
    refine wi_m h4 in0 ⟨by decide, by decide⟩ (fun a4 b4 => absurd (by omega) hc) (fun a => ⟨in0, fun _ => ⟨in0, fun c => absurd rfl c, fun _ => ⟨rfl, hi⟩⟩, fun c => absurd rfl c⟩)
  unfold wp_X11_why wp_X11_isCell wp_X11_isStem
  refine crewAt_x a_crews h1 (fun u1 u2 => ?_) (fun u => hno (by omega))
  refine wi_x h2 in0 ⟨by decide, by decide⟩ (fun a2 b2 => ⟨Or.inr rfl, in1, fun c => absurd c (by decide), fun _ => ?_⟩) (fun a => ⟨Or.inl rfl, in0, fun _ => hno (by omega), fun c => absurd rfl c⟩)
  refine wi_x h3 in0 ⟨by decide, by decide⟩ (fun a3 b3 => ⟨in1, fun c => absurd c (by decide), fun _ => ?_⟩) (fun a => ⟨in0, fun _ => ⟨in0, fun c => absurd rfl c, fun _ => hno (by omega)⟩, fun c => absurd rfl c⟩)
  refine wi_x h4 in0 ⟨by decide, by decide⟩ (fun a4 b4 => ⟨in1, fun c => absurd c (by decide), fun _ => ⟨in1, fun _ => ?_, fun c => absurd c (by decide)⟩⟩) (fun a => ⟨in0, fun _ => ⟨in0, fun c => absurd rfl c, fun _ => hno (by omega)⟩, fun c => absurd rfl c⟩)
  refine qx_cut hI0 ⟨a2, b2⟩ (fun f hf => qx_bar hI0 in0 (FcCut_in hI0 hf h1 ⟨a2, b2⟩ h3 h4) (fun r hr => ?_))
  intro τ eτ
  have t1 : τ 12 0 60 = σ 12 0 60 := by rw [eτ, rs_eq, up_ne (by decide), ra_ne (by decide)]
  have em : MEq σ τ := by rw [eτ]; exact MEq_q
  unfold wp_X12_isCrew wp_X12_isCell wp_X12_isStem
  refine wi_m h1 in0 ⟨by omega, by omega⟩ (fun _ _ => ⟨Or.inr rfl, in1, fun c => absurd c (by decide), fun _ => ?_⟩) (fun a => absurd (by omega) a)
  refine wi_m h2 in0 ⟨by decide, by decide⟩ (fun _ _ => ⟨Or.inr rfl, in1, fun c => absurd c (by decide), fun _ => ?_⟩) (fun a => absurd (by omega) a)
  refine wi_m h3 in0 ⟨by decide, by decide⟩ (fun _ _ => ⟨in1, fun c => absurd c (by decide), fun _ => ?_⟩) (fun a => absurd (by omega) a)
  refine wi_m h4 in0 ⟨by decide, by decide⟩ (fun _ _ => ⟨in1, fun c => absurd c (by decide), fun _ => ⟨in1, fun _ => ?_, fun c => absurd c (by decide)⟩⟩) (fun a => absurd (by omega) a)
  refine qm_cut hI0 em ⟨a2, b2⟩ (fun g hg => qm_bar hI0 em (FcCut_in hI0 hg h1 ⟨a2, b2⟩ h3 h4) (Fc_eq hf hg) ⟨by decide, by decide⟩ hr ⟨rfl, ?_⟩)
  rw [eτ]
  exact Inv_q hI0
