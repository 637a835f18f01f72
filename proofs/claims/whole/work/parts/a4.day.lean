/-! the call day -/
def gfD (σ : St) (m wc : Nat) (rm : Nat → Int) : St := flG (σ 7 0 3) (σ 3 0 6) (dyW σ m rm wc).2 m
def cvD (σ : St) (cc : Nat) (rt : Nat → Int) : St := if Int.tmod (σ 7 0 3) 25 = 24 then moG rt σ cc else σ
def tvD (σ : St) : Nat → Int := if Int.tmod (σ 7 0 3) 100 = 99 then ycF (σ 32 0) (σ 30 0) 64 else σ 30 0
def hvD (σ : St) : Nat → Int := if Int.tmod (σ 7 0 3) 100 = 99 then yhF (σ 29 0) 64 else σ 29 0
/-- the class's world a day later -/
def FaD (σ S G C : St) : Prop := (∀ k, ¬ k = 1 → ¬ k = 4 → ¬ k = 7 → ¬ k = 29 → ¬ k = 30 → ¬ k = 31 → ¬ k = 35 → ¬ k = 36 → ¬ k = 37 → ¬ k = 75 → S k = σ k) ∧ S 7 0 = up (up (σ 7 0) 3 (σ 7 0 3 + 1)) 4 (lat (σ 64 0) (σ 7 0 3 + 1) (σ 7 0 2).toNat) ∧ RelL S G ∧ RelC S C (σ 11 0 4) (σ 7 0 3 + 1) ∧ S 30 0 = tvD σ ∧ S 29 0 = hvD σ
theorem tm_in {a b : Int} (ha : 0 ≤ a) (hb : 0 < b) (hb2 : b ≤ 1000) : inR (Int.tmod a b) := by
  rw [Int.tmod_eq_emod_of_nonneg ha]
  have l1 := Int.emod_lt_of_pos a hb
  have l0 := Int.emod_nonneg a (show b ≠ 0 by omega)
  exact ⟨by omega, by omega⟩
theorem day_x {n : Nat} {σ : St} {m wc cc : Nat} {rm rt : Nat → Int} {Q : Int → St → Prop} (hI : Inv n σ) (hm : σ 11 0 4 = m) (hwc : σ 11 0 6 = wc) (hcc : σ 11 0 11 = cc) (hr : ∀ w, 0 ≤ rm w ∧ rm w ≤ 200) (hrm : ∀ w f r, FcWay σ (σ 10 w 1) (σ 10 w 0) f → BarF σ f 1 r → cyv σ w r = rm w) (hr2 : ∀ w, 0 ≤ rt w ∧ rt w ≤ 9999) (hrt : ∀ w : Nat, ∀ f r, FcCrew σ w f → NumF σ f 3 r → r = rt w)
    (q1 : ¬ σ 7 0 3 < 3999 → Q (-1) σ) (q : σ 7 0 3 < 3999 → ∀ S, FaD σ S (gfD σ m wc rm) (cvD σ cc rt) → Q (dyW σ m rm wc).1 S) : wp_X11_day σ Q := by
  have hI0 := hI
  obtain ⟨a_sky, a_land, a_price, a_ints, a_logA, a_logB, a_live, a_lying, a_ways, a_crews, a_dbl, a_tape, a_law, a_ord, a_spur, a_cuts, a_cru, a_kf, a_tn⟩ := hI
  obtain ⟨⟨k1, k2, k3⟩, k4, k5, -⟩ := id a_sky
  obtain ⟨v1, v2, v3, -⟩ := id a_live
  obtain ⟨-, m1, lh, ls, lt, lg, -⟩ := id a_land
  obtain ⟨w1, -⟩ := id a_ways
  obtain ⟨u1, -⟩ := id a_crews
  obtain ⟨mill, emi⟩ : ∃ mill : Nat, σ 3 0 6 = mill := ⟨(σ 3 0 6).toNat, by omega⟩
  have hv : ∀ l, l < m → 1 ≤ vlv σ l := fun l hl => by
    obtain ⟨-, -, -, aw⟩ := a_logA l (by omega)
    exact (vol_b ⟨by omega, by omega⟩ ⟨by omega, by omega⟩).2.1
  have R0 : RelL σ σ := ⟨a_logA, a_logB, a_live, a_lying, a_kf⟩
  unfold wp_X11_day
  refine ⟨⟨by omega, by omega⟩, fun td => ⟨wc + 1, ?_⟩, q1⟩
  have q := q td
  refine dyx_loop hI0 hm hwc hr (fun w _ => hrm w) hv (fun S hR hF => ?_) wc 0 (wc + 1) σ (by omega) (by omega) R0 (fun k _ _ _ _ _ _ => rfl)
  unfold wp_X11_day_67
  refine sx_float (mill := mill) hm (by omega) rfl (by omega) emi (by omega) hR hF (fun S2 hR2 hF2 => ?_)
  rw [← emi] at hR2
  have f2 := fun (k : Nat) (h : k < 4 ∨ (4 < k ∧ k < 31) ∨ (37 < k ∧ k < 75) ∨ 75 < k) => hF2 k (by omega) (by omega) (by omega) (by omega) (by omega) (by omega)
  have RC0 : RelC S2 σ (σ 11 0 4) (σ 7 0 3 + 1) := by
    unfold RelC
    rw [f2 11 (by omega), f2 1 (by omega), f2 79 (by omega), f2 50 (by omega)]
    obtain ⟨g1, g2, g3⟩ := a_crews
    exact ⟨g1, fun i hi => by
      obtain ⟨y1, y2, y3⟩ := g2 i hi
      exact ⟨y1, y2, by omega⟩, g3⟩
  -- behind the month
  have yr : ∀ S3, RelC S3 (cvD σ cc rt) (σ 11 0 4) (σ 7 0 3 + 1) → (∀ k, ¬ k = 1 → ¬ k = 75 → S3 k = S2 k) → wp_X11_day_90 Q S3 (dyW σ m rm wc).1 := by
    intro S3 hC h3
    have f3 := fun (k : Nat) (h : k = 0 ∨ k = 2 ∨ k = 3 ∨ (4 < k ∧ k < 31) ∨ (37 < k ∧ k < 75) ∨ 75 < k) => (h3 k (by omega) (by omega)).trans (f2 k (by omega))
    have hR3 : RelL S3 (gfD σ m wc rm) := by
      unfold RelL
      rw [h3 11 (by decide) (by decide), h3 4 (by decide) (by decide), h3 38 (by decide) (by decide), h3 35 (by decide) (by decide), h3 36 (by decide) (by decide), h3 37 (by decide) (by decide), h3 77 (by decide) (by decide), h3 50 (by decide) (by decide), h3 31 (by decide) (by decide)]
      exact hR2
    have nd : ∀ S4, (∀ k, ¬ k = 29 → ¬ k = 30 → S4 k = S3 k) → S4 30 0 = tvD σ → S4 29 0 = hvD σ → wp_X11_day_112 Q S4 (dyW σ m rm wc).1 := by
      intro S4 h4 e30 e29
      have f4 := fun (k : Nat) (h : k = 0 ∨ k = 2 ∨ k = 3 ∨ (4 < k ∧ k < 29) ∨ (37 < k ∧ k < 75) ∨ 75 < k) => (h4 k (by omega) (by omega)).trans (f3 k (by omega))
      unfold wp_X11_day_112 wp_X7_nextDay
      intro s1 e1
      have s7 : s1 7 0 = up (σ 7 0) 3 (σ 7 0 3 + 1) := by rw [e1, rs_eq, f4 7 (by omega)]
      have sk : ∀ k, ¬ k = 7 → s1 k = S4 k := fun k z => by rw [e1, rs_ne z]
      have s73 : s1 7 0 3 = σ 7 0 3 + 1 := by rw [s7, up_eq]
      have s72 : s1 7 0 2 = σ 7 0 2 := by rw [s7, up_ne (by decide)]
      have s64 : s1 64 = σ 64 := by rw [sk 64 (by decide), f4 64 (by omega)]
      refine sx_tellingFor (by rw [s72]; omega) (by rw [s72]; omega) (fun i => by rw [s64]; have := k5 i; exact ⟨by omega, by omega⟩) (by rw [s73]; exact ⟨by omega, by omega⟩) (fun s4 e4 => ?_)
      have gk : ∀ k, ¬ k = 7 → s4 k = S4 k := fun k z => by rw [e4, rs_ne z, sk k z]
      refine q s4 ⟨fun k z1 z4 z7 z29 z30 z31 z35 z36 z37 z75 => ?_, ?_, ?_, ?_, ?_, ?_⟩
      · rw [gk k z7, h4 k z29 z30, h3 k z1 z75]
        exact hF2 k z4 z31 z35 z36 z37 z75
      · rw [e4, rs_eq, s64, s73, s72, s7]
      · unfold RelL
        rw [gk 11 (by decide), gk 4 (by decide), gk 38 (by decide), gk 35 (by decide), gk 36 (by decide), gk 37 (by decide), gk 77 (by decide), gk 50 (by decide), gk 31 (by decide), h4 11 (by decide) (by decide), h4 4 (by decide) (by decide), h4 38 (by decide) (by decide), h4 35 (by decide) (by decide), h4 36 (by decide) (by decide), h4 37 (by decide) (by decide), h4 77 (by decide) (by decide), h4 50 (by decide) (by decide), h4 31 (by decide) (by decide)]
        exact hR3
      · unfold RelC
        rw [gk 11 (by decide), gk 1 (by decide), gk 79 (by decide), gk 50 (by decide), h4 11 (by decide) (by decide), h4 1 (by decide) (by decide), h4 79 (by decide) (by decide), h4 50 (by decide) (by decide)]
        exact hC
      · rw [gk 30 (by decide), e30]
      · rw [gk 29 (by decide), e29]
    have e7 : S3 7 = σ 7 := f3 7 (by omega)
    have e30 : S3 30 = σ 30 := f3 30 (by omega)
    have e29 : S3 29 = σ 29 := f3 29 (by omega)
    have e32 : S3 32 = σ 32 := by rw [h3 32 (by decide) (by decide), hF2 32 (by decide) (by decide) (by decide) (by decide) (by decide) (by decide)]
    unfold wp_X11_day_90
    rw [e7]
    refine ⟨⟨by omega, by omega⟩, tm_in (by omega) (by decide) (by decide), fun z => nd S3 (fun k _ _ => rfl) ?_ ?_, fun z => ?_⟩
    · unfold tvD
      rw [if_neg z, e30]
    · unfold hvD
      rw [if_neg z, e29]
    · refine sx_year (B := 3 * σ 11 0 4) (by rw [e30]; exact lt) (by rw [e32]; exact lg) (by rw [e29]; exact ls) (by omega) ?_
      refine nd _ (fun k z1 z2 => yrX_k z2 z1) ?_ ?_
      · rw [yrX_r30, e32, e30]
        unfold tvD
        rw [if_pos z]
      · rw [yrX_r29, e29]
        unfold hvD
        rw [if_pos z]
  have e7 : S2 7 = σ 7 := f2 7 (by omega)
  rw [e7]
  refine ⟨⟨by omega, by omega⟩, tm_in (by omega) (by decide) (by decide), fun z => yr S2 ?_ (fun k _ _ => rfl), fun z => ?_⟩
  · unfold cvD
    rw [if_neg z]
    exact RC0
  · refine ⟨cc + 1, cmx_loop hI0 hF2 hcc hr2 hrt (fun S3 hC h3 => yr S3 ?_ h3) cc 0 (cc + 1) S2 (by omega) (by omega) RC0 (fun k _ _ => rfl)⟩
    unfold cvD
    rw [if_pos z]
    exact hC
/-- both worlds, a day later -/
theorem Inv_day {n : Nat} {σ S U : St} {m wc cc : Nat} {rm rt : Nat → Int} (hI : Inv n σ) (td : σ 7 0 3 < 3999) (hS : FaD σ S (gfD σ m wc rm) (cvD σ cc rt)) (hk : ∀ k, ¬ k = 12 → ¬ k = 84 → ¬ k = 85 → ¬ k = 95 → ¬ k = 102 → ¬ k = 103 → ¬ k = 104 → ¬ k = 105 → ¬ k = 119 → ¬ k = 126 → ¬ k = 127 → ¬ k = 128 → U k = S k) (h12 : ∀ i, ¬ i = 0 → ¬ i = 1 → U 12 0 i = σ 12 0 i) (h1 : U 12 0 1 = σ 7 0 3 + 1) (h84 : U 84 0 = hvD σ) (h85 : U 85 0 = tvD σ) (h95 : U 95 0 = gfD σ m wc rm 95 0) (h102 : U 102 0 = gfD σ m wc rm 102 0) (h103 : U 103 0 = gfD σ m wc rm 103 0) (h104 : U 104 0 = gfD σ m wc rm 104 0) (h105 : U 105 0 = gfD σ m wc rm 105 0) (h126 : U 126 0 = cvD σ cc rt 126 0) (h127 : U 127 0 = cvD σ cc rt 127 0) (h128 : U 128 0 = cvD σ cc rt 128 0) : Inv (n + 1) U := by
  have gk : ∀ k, ¬ k = 95 → ¬ k = 102 → ¬ k = 103 → ¬ k = 104 → ¬ k = 105 → gfD σ m wc rm k = σ k := fun k z1 z2 z3 z4 z5 => by
    unfold gfD
    rw [flG_k z2 z4 z5, dyW_k z1 z2 z3 z4 z5]
  have ck : ∀ k, ¬ k = 126 → ¬ k = 127 → ¬ k = 128 → cvD σ cc rt k = σ k := fun k z1 z2 z3 => by
    unfold cvD
    split
    · exact moG_k z1 z2 z3 cc
    · rfl
  obtain ⟨G, eG⟩ : ∃ G, G = gfD σ m wc rm := ⟨_, rfl⟩
  obtain ⟨C, eC⟩ : ∃ C, C = cvD σ cc rt := ⟨_, rfl⟩
  rw [← eG] at hS gk h95 h102 h103 h104 h105
  rw [← eC] at hS ck h126 h127 h128
  clear eG eC
  obtain ⟨s1, s2, ⟨hA, hB, hV, hY, hK⟩, s4, s5, s6⟩ := hS
  obtain ⟨a_sky, a_land, a_price, a_ints, a_logA, a_logB, a_live, a_lying, a_ways, a_crews, a_dbl, a_tape, a_law, a_ord, a_spur, a_cuts, a_cru, a_kf, a_tn⟩ := hI
  obtain ⟨⟨k1, k2, k3⟩, k4, k5, k6, k7, k8⟩ := id a_sky
  obtain ⟨⟨l1, l2, l3, l4, l5, l6⟩, m1, lh, ls, lt, lg, lp⟩ := id a_land
  have s11 : S 11 = σ 11 := s1 11 (by decide) (by decide) (by decide) (by decide) (by decide) (by decide) (by decide) (by decide) (by decide) (by decide)
  rw [s11] at hA hB hV hY
  unfold RelC at s4
  rw [s11] at s4
  simp (decide := true) only [gk, not_false_eq_true] at hA
  simp (decide := true) only [gk, not_false_eq_true] at hV
  simp (decide := true) only [ck, s1, not_false_eq_true] at s4
  unfold Inv
  simp (decide := true) only [hk, h12, h1, h84, h85, h95, h102, h103, h104, h105, h126, h127, h128, not_false_eq_true]
  simp (decide := true) only [s1, not_false_eq_true] at hA
  simp (decide := true) only [s1, not_false_eq_true] at hV
  simp (decide := true) only [s1, s2, s5, s6, not_false_eq_true]
  refine ⟨?_, ?_, a_price, I_ints_up a_ints, hA, hB, hV, hY, a_ways, ?_, a_dbl, a_tape, a_law, a_ord, a_spur, a_cuts, a_cru, hK, a_tn⟩
  · have z2 : up (up (σ 7 0) 3 (σ 7 0 3 + 1)) 4 (lat (σ 64 0) (σ 7 0 3 + 1) (σ 7 0 2).toNat) 2 = σ 7 0 2 := by rw [up_ne (by decide), up_ne (by decide)]
    have z3 : up (up (σ 7 0) 3 (σ 7 0 3 + 1)) 4 (lat (σ 64 0) (σ 7 0 3 + 1) (σ 7 0 2).toNat) 3 = σ 7 0 3 + 1 := by rw [up_ne (by decide), up_eq]
    refine ⟨⟨?_, ?_, k3⟩, ?_, k5, k6, k7, ?_⟩
    · rw [z2]; exact k1
    · rw [z3]
    · rw [z2, z3]; omega
    · rw [up_eq, z2, z3]
  · refine ⟨⟨l1, rfl, rfl, l4, l5, l6⟩, m1, lh, ?_, ?_, lg, lp⟩
    · unfold hvD
      split
      · exact yhF_b ls 64
      · exact ls
    · unfold tvD
      split
      · exact YB_c lt lg 64
      · exact lt
  · have z3 : up (up (σ 7 0) 3 (σ 7 0 3 + 1)) 4 (lat (σ 64 0) (σ 7 0 3 + 1) (σ 7 0 2).toNat) 3 = σ 7 0 3 + 1 := by rw [up_ne (by decide), up_eq]
    rw [z3]
    exact s4
theorem day_m {n : Nat} {σ S : St} {m wc cc : Nat} {rm rt : Nat → Int} (hI : Inv n σ) (td : σ 7 0 3 < 3999) (hm : σ 11 0 4 = m) (hwc : σ 11 0 6 = wc) (hcc : σ 11 0 11 = cc) (hr : ∀ w, 0 ≤ rm w ∧ rm w ≤ 200) (hrm : ∀ w, ∃ f r, FcWay σ (σ 10 w 1) (σ 10 w 0) f ∧ BarF σ f 1 r ∧ cyv σ w r = rm w) (hr2 : ∀ w, 0 ≤ rt w ∧ rt w ≤ 9999) (hrt : ∀ w : Nat, ∃ f, FcCrew σ w f ∧ NumF σ f 3 (rt w)) (hS : FaD σ S (gfD σ m wc rm) (cvD σ cc rt)) : wp_X12_day S (fun r2 σ2 => r2 = (dyW σ m rm wc).1 ∧ Inv (n + 1) σ2) := by
  have hI0 := hI
  obtain ⟨a_sky, a_land, a_price, a_ints, a_logA, a_logB, a_live, a_lying, a_ways, a_crews, a_dbl, a_tape, a_law, a_ord, a_spur, a_cuts, a_cru, a_kf, a_tn⟩ := hI
  obtain ⟨⟨k1, k2, k3⟩, k4, k5, -⟩ := id a_sky
  obtain ⟨v1, v2, v3, -⟩ := id a_live
  obtain ⟨⟨l1, l2, l3, l4, l5, l6⟩, m1, lh, ls, lt, lg, -⟩ := id a_land
  obtain ⟨⟨-, w0, w1⟩, w2, -⟩ := id a_ways
  obtain ⟨⟨u0, u1, u2⟩, -⟩ := id a_crews
  obtain ⟨mill, emi⟩ : ∃ mill : Nat, σ 3 0 6 = mill := ⟨(σ 3 0 6).toNat, by omega⟩
  have gb : GhB σ m := fun l hl => by
    obtain ⟨-, ⟨-, gh⟩, gc, -⟩ := a_logB l (by omega)
    rcases gh with h | h | h | h | h <;> omega
  have gw := GhB_W (rm := rm) gb (wc := wc) (fun w hw => by have := (w2 w (by omega)).2.2; omega) (by omega) wc (Nat.le_refl _)
  have sk := fun (k : Nat) (h : k = 12 ∨ 83 ≤ k) => hS.1 k (by omega) (by omega) (by omega) (by omega) (by omega) (by omega) (by omega) (by omega) (by omega) (by omega)
  intro τ eτ
  have hτ : ∀ k, 83 ≤ k → τ k = σ k := fun k z => by rw [eτ, rs_ne (by omega), sk k (by omega)]
  have h12 : ∀ i, ¬ i = 0 → τ 12 0 i = σ 12 0 i := fun i z => by rw [eτ, rs_eq, up_ne z, sk 12 (by omega)]
  have hτS : ∀ k, ¬ k = 12 → τ k = S k := fun k z => by rw [eτ, rs_ne z]
  rw [h12 1 (by decide), k2]
  refine ⟨⟨by omega, by omega⟩, fun _ => ⟨wc + 1, ?_⟩, fun z => absurd z (by omega)⟩
  have F0 : FloP σ τ m (σ 7 0 3) (σ 3 0 6) (fun _ => False) := by
    have c : ∀ (a v : Nat → Int), cfv a v (fun _ => False) = a := fun a v => by
      funext l
      exact cfv_n (fun z => z)
    have c5 : ∀ (a v : Nat → Int), cfv a v (at5 (fun _ => False) 1) = a := fun a v => by
      funext l
      exact cfv_n (fun z => z.1)
    unfold FloP
    rw [hτ 95 (by decide), hτ 102 (by decide), hτ 103 (by decide), hτ 104 (by decide), hτ 105 (by decide), c, c5, c5]
    exact ⟨⟨rfl, rfl, rfl, rfl, rfl⟩, fun _ z => z.elim⟩
  refine dym_loop hI0 hτ h12 hm hwc hr hrm (fun T F hR hF => ?_) wc 0 (wc + 1) τ (fun _ => False) (by omega) (by omega) F0 (fun k _ _ _ _ _ _ => rfl)
  unfold wp_X12_day_43
  refine ⟨m + 1, flm_loop (V := (dyW σ m rm wc).2) (mill := mill) (td := σ 7 0 3) (m := m) (τ := τ) (by rw [h12 17 (by decide), v1, hm]) (by omega) (by rw [h12 1 (by decide), k2]) (by omega) (by rw [h12 7 (by decide), l6, emi]) (by omega) gw (fun T2 hR2 hF2 => ?_) m 0 (m + 1) T F (by omega) (by omega) (by rw [← emi]; exact hR) (fun l _ => Nat.zero_le _) hF⟩
  rw [← emi] at hR2
  have em2 : MEq σ T2 := FrE_MEq hτ h12 hF2
  -- behind the month
  have yr : ∀ T3, (T3 126 0 = cvD σ cc rt 126 0 ∧ T3 127 0 = cvD σ cc rt 127 0 ∧ T3 128 0 = cvD σ cc rt 128 0) → (∀ k, ¬ k = 126 → ¬ k = 127 → ¬ k = 128 → ¬ k = 119 → T3 k = T2 k) → wp_X12_day_103 (fun r2 σ2 => r2 = (dyW σ m rm wc).1 ∧ Inv (n + 1) σ2) T3 (dyW σ m rm wc).1 := by
    intro T3 hC h3
    have nd : ∀ T4, (∀ k, ¬ k = 84 → ¬ k = 85 → T4 k = T3 k) → T4 85 0 = tvD σ → T4 84 0 = hvD σ → wp_X12_day_119 (fun r2 σ2 => r2 = (dyW σ m rm wc).1 ∧ Inv (n + 1) σ2) T4 (dyW σ m rm wc).1 := by
      intro T4 h4 e85 e84 U eU
      have t1 : T4 12 0 1 = σ 7 0 3 := by rw [h4 12 (by decide) (by decide), h3 12 (by decide) (by decide) (by decide) (by decide), em2.1 1 (by decide), k2]
      have uk : ∀ k, ¬ k = 12 → U k = T4 k := fun k z => by rw [eU, rs_ne z]
      refine ⟨rfl, Inv_day hI0 td hS (fun k z12 z84 z85 z95 z102 z103 z104 z105 z119 z126 z127 z128 => ?_) (fun i z0 z1 => ?_) ?_ ?_ ?_ ?_ ?_ ?_ ?_ ?_ ?_ ?_ ?_⟩
      · rw [uk k z12, h4 k z84 z85, h3 k z126 z127 z128 z119, hF2 k z95 z102 z103 z104 z105 z119, hτS k z12]
      · rw [eU, rs_eq, up_ne z1, h4 12 (by decide) (by decide), h3 12 (by decide) (by decide) (by decide) (by decide), em2.1 i z0]
      · rw [eU, rs_eq, up_eq, t1]
      · rw [uk 84 (by decide), e84]
      · rw [uk 85 (by decide), e85]
      · rw [uk 95 (by decide), h4 95 (by decide) (by decide), h3 95 (by decide) (by decide) (by decide) (by decide)]
        exact hR2.1
      · rw [uk 102 (by decide), h4 102 (by decide) (by decide), h3 102 (by decide) (by decide) (by decide) (by decide)]
        exact hR2.2.2.1
      · rw [uk 103 (by decide), h4 103 (by decide) (by decide), h3 103 (by decide) (by decide) (by decide) (by decide)]
        exact hR2.2.1
      · rw [uk 104 (by decide), h4 104 (by decide) (by decide), h3 104 (by decide) (by decide) (by decide) (by decide)]
        exact hR2.2.2.2.1
      · rw [uk 105 (by decide), h4 105 (by decide) (by decide), h3 105 (by decide) (by decide) (by decide) (by decide)]
        exact hR2.2.2.2.2
      · rw [uk 126 (by decide), h4 126 (by decide) (by decide)]
        exact hC.1
      · rw [uk 127 (by decide), h4 127 (by decide) (by decide)]
        exact hC.2.1
      · rw [uk 128 (by decide), h4 128 (by decide) (by decide)]
        exact hC.2.2
    have t12 : T3 12 0 1 = σ 7 0 3 := by rw [h3 12 (by decide) (by decide) (by decide) (by decide), em2.1 1 (by decide), k2]
    have e85 : T3 85 0 = σ 30 0 := by rw [h3 85 (by decide) (by decide) (by decide) (by decide), em2.2 85 (by decide) (by decide), l3]
    have e84 : T3 84 0 = σ 29 0 := by rw [h3 84 (by decide) (by decide) (by decide) (by decide), em2.2 84 (by decide) (by decide), l2]
    have e86 : T3 86 0 = σ 32 0 := by rw [h3 86 (by decide) (by decide) (by decide) (by decide), em2.2 86 (by decide) (by decide), l4]
    unfold wp_X12_day_103
    rw [t12]
    refine ⟨⟨by omega, by omega⟩, tm_in (by omega) (by decide) (by decide), fun z => nd T3 (fun k _ _ => rfl) ?_ ?_, fun z => ?_⟩
    · unfold tvD
      rw [if_neg z, e85]
    · unfold hvD
      rw [if_neg z, e84]
    · refine sm_year (B := 3 * σ 11 0 4) (by rw [e85]; exact lt) (by rw [e86]; exact lg) (by rw [e84]; exact ls) (by omega) ?_
      refine nd _ (fun k z1 z2 => yrM_k z2 z1) ?_ ?_
      · rw [yrM_r85, e86, e85]
        unfold tvD
        rw [if_pos z]
      · rw [yrM_r84, e84]
        unfold hvD
        rw [if_pos z]
  have t12 : T2 12 0 1 = σ 7 0 3 := by rw [em2.1 1 (by decide), k2]
  have c6 : T2 126 = σ 126 := by rw [hF2 126 (by decide) (by decide) (by decide) (by decide) (by decide) (by decide), hτ 126 (by decide)]
  have c7 : T2 127 = σ 127 := by rw [hF2 127 (by decide) (by decide) (by decide) (by decide) (by decide) (by decide), hτ 127 (by decide)]
  have c8 : T2 128 = σ 128 := by rw [hF2 128 (by decide) (by decide) (by decide) (by decide) (by decide) (by decide), hτ 128 (by decide)]
  unfold wp_X12_day_87
  rw [t12]
  refine ⟨⟨by omega, by omega⟩, tm_in (by omega) (by decide) (by decide), fun z => yr T2 ?_ (fun k _ _ _ _ => rfl), fun z => ?_⟩
  · unfold cvD
    rw [if_neg z, c6, c7, c8]
    exact ⟨rfl, rfl, rfl⟩
  · refine ⟨cc + 1, cmm_loop hI0 em2 c6 c7 c8 hcc hr2 hrt (moG_B hI0 hcc hr2) (fun T3 hC h3 => yr T3 ?_ h3) cc 0 (cc + 1) T2 (by omega) (by omega) ⟨by rw [c6]; rfl, by rw [c7]; rfl, by rw [c8]; rfl⟩ (fun k _ _ _ _ => rfl)⟩
    unfold cvD
    rw [if_pos z]
    exact hC
theorem op_day {n : Nat} {σ : St} (hI : Inv n σ) : wp_X11_day σ (fun r σ1 => wp_X12_day σ1 (fun r2 σ2 => r2 = r ∧ Inv (n + 1) σ2)) := by
  have hI0 := hI
  obtain ⟨a_sky, a_land, a_price, a_ints, a_logA, a_logB, a_live, a_lying, a_ways, a_crews, a_dbl, a_tape, a_law, a_ord, a_spur, a_cuts, a_cru, a_kf, a_tn⟩ := hI
  obtain ⟨⟨k1, k2, k3⟩, k4, k5, -⟩ := id a_sky
  obtain ⟨v1, v2, -⟩ := id a_live
  obtain ⟨⟨-, w0, w1⟩, -⟩ := id a_ways
  obtain ⟨⟨-, u1, u2⟩, -⟩ := id a_crews
  obtain ⟨rm, r1, r2⟩ := rm_ex hI0
  obtain ⟨rt, t1, t2⟩ := rt_ex hI0
  have hm : σ 11 0 4 = ((σ 11 0 4).toNat : Nat) := by omega
  have hwc : σ 11 0 6 = ((σ 11 0 6).toNat : Nat) := by omega
  have hcc : σ 11 0 11 = ((σ 11 0 11).toNat : Nat) := by omega
  refine day_x hI0 hm hwc hcc r1 (fun w => (r2 w).2) t1 (fun w => (t2 w).2) (fun z => ?_) (fun z S hS => day_m hI0 z hm hwc hcc r1 (fun w => (r2 w).1) t1 (fun w => (t2 w).1) hS)
  intro τ eτ
  have e1 : τ 12 0 1 = 3999 := by rw [eτ, rs_eq, up_ne (by decide), k2]; omega
  rw [e1]
  exact ⟨⟨by decide, by decide⟩, fun y => absurd rfl y, fun _ => ⟨rfl, by rw [eτ]; exact Inv_t hI0⟩⟩
