/-! fire, side by side -/
theorem Inv_fire {n : Nat} {σ U : St} {g : Nat → Int} (hI : Inv n σ) (hk : ∀ k, ¬ k = 4 → ¬ k = 12 → ¬ k = 29 → ¬ k = 30 → ¬ k = 31 → ¬ k = 34 → ¬ k = 35 → ¬ k = 36 → ¬ k = 37 → ¬ k = 75 → ¬ k = 84 → ¬ k = 85 → ¬ k = 102 → ¬ k = 104 → ¬ k = 105 → ¬ k = 119 → ¬ k = 141 → U k = σ k) (h12 : ∀ i, ¬ i = 0 → U 12 0 i = σ 12 0 i)
    (h29 : U 29 0 = clS g (σ 29 0) 64) (h30 : U 30 0 = clT g (σ 30 0) 64) (h84 : U 84 0 = clS g (σ 29 0) 64) (h85 : U 85 0 = clT g (σ 30 0) 64)
    (hA : I_logA (σ 11 0 4) (U 4) (σ 38) (σ 96 0) (σ 97 0) (σ 98 0) (σ 99 0) (σ 100 0) (σ 101 0) (σ 106 0) (σ 107 0) (σ 108 0)) (hB : I_logB (σ 11 0 4) (U 4) (U 35) (U 36) (U 37) (σ 95 0) (σ 103 0) (U 102 0) (U 104 0) (U 105 0)) (hY : I_lying (σ 11 0 4) (U 31 0) (U 102 0) (σ 95 0)) (hK : I_kf (U 105 0)) : Inv (n + 1) U := by
  obtain ⟨a_sky, a_land, a_price, a_ints, a_logA, a_logB, a_live, a_lying, a_ways, a_crews, a_dbl, a_tape, a_law, a_ord, a_spur, a_cuts, a_cru, a_kf, a_tn⟩ := hI
  obtain ⟨⟨e83, e84, e85, e86, e87, m2⟩, m1, lh, ls, lt, lg, lp⟩ := id a_land
  unfold Inv
  simp (decide := true) only [hk, h12, h29, h30, h84, h85, not_false_eq_true]
  refine ⟨a_sky, ⟨⟨e83, rfl, rfl, e86, e87, m2⟩, m1, lh, clS_b ls 64, clT_b lt 64, lg, lp⟩, a_price, I_ints_up a_ints, hA, hB, a_live, hY, a_ways, a_crews, a_dbl, a_tape, a_law, a_ord, a_spur, a_cuts, a_cru, hK, a_tn⟩
theorem I_kf_fire {f95 kf : Nat → Int} {P : Nat → Prop} {td mill : Int} {x : Nat} (h : I_kf kf) (ht : 0 ≤ td ∧ td ≤ 3999) (hm : 0 ≤ mill ∧ mill ≤ 63) (hc : ∀ i, P i → 0 ≤ f95 i ∧ f95 i ≤ 63) : I_kf (cfv kf (kdv td mill f95) (at5 P x)) := by
  intro i
  by_cases e : at5 P x i
  · rw [cfv_p e]
    have c := hc (i / 5) e.1
    have ab := apv_b (a := f95 (i / 5)) (b := mill) c.1 c.2 hm.1 hm.2
    unfold kdv
    rw [Int.tdiv_eq_ediv_of_nonneg ab.1]
    omega
  · rw [cfv_n e]
    exact h i
theorem lit_congr {g g' : Nat → Int} {n : Nat} (h : ∀ c, c < n → g' c = g c) : lit g' n = lit g n := sumv_congr (fun c hc => by rw [h c hc])
theorem fire_end {n first m : Nat} {σ τ : St} {w : Int} {g : Nat → Int} (hI : Inv n σ) (hw : 0 ≤ w ∧ w ≤ 3) (hm : m ≤ 20) (h1 : first < 64) (hg : Spread (CatX σ w (wea σ 2)) first m (fun c => g c - 1)) (hk : ∀ k, ¬ k = 4 → ¬ k = 12 → ¬ k = 29 → ¬ k = 30 → ¬ k = 31 → ¬ k = 34 → ¬ k = 35 → ¬ k = 36 → ¬ k = 37 → ¬ k = 75 → ¬ k = 119 → τ k = σ k) (h12 : ∀ i, ¬ i = 0 → τ 12 0 i = σ 12 0 i) (h29 : τ 29 0 = clS g (σ 29 0) 64) (h30 : τ 30 0 = clT g (σ 30 0) 64)
    (hA : I_logA (σ 11 0 4) (τ 4) (σ 38) (σ 96 0) (σ 97 0) (σ 98 0) (σ 99 0) (σ 100 0) (σ 101 0) (σ 106 0) (σ 107 0) (σ 108 0)) (hB : I_logB (σ 11 0 4) (τ 4) (τ 35) (τ 36) (τ 37) (σ 95 0) (σ 103 0) (cfv (σ 102 0) (fun _ => 3) (fun i => (i : Int) < σ 11 0 4 ∧ σ 102 0 i = 0 ∧ ¬ g (σ 95 0 i).toNat = 0)) (cfv (σ 104 0) (fun _ => σ 7 0 3) (at5 (fun i => (i : Int) < σ 11 0 4 ∧ σ 102 0 i = 0 ∧ ¬ g (σ 95 0 i).toNat = 0) 3)) (cfv (σ 105 0) (kdv (σ 7 0 3) (σ 3 0 6) (σ 95 0)) (at5 (fun i => (i : Int) < σ 11 0 4 ∧ σ 102 0 i = 0 ∧ ¬ g (σ 95 0 i).toNat = 0) 3))) (hY : I_lying (σ 11 0 4) (τ 31 0) (cfv (σ 102 0) (fun _ => 3) (fun i => (i : Int) < σ 11 0 4 ∧ σ 102 0 i = 0 ∧ ¬ g (σ 95 0 i).toNat = 0)) (σ 95 0)) :
    wp_X12_fires τ first w m (fun r2 σ2 => r2 = lit g 64 ∧ Inv (n + 1) σ2) := by
  have hI0 := hI
  obtain ⟨a_sky, a_land, a_price, a_ints, a_logA, a_logB, a_live, a_lying, a_ways, a_crews, a_dbl, a_tape, a_law, a_ord, a_spur, a_cuts, a_cru, a_kf, a_tn⟩ := hI
  obtain ⟨v1, v2, v3, -⟩ := id a_live
  obtain ⟨⟨k1, k2, k3⟩, k4, -⟩ := id a_sky
  obtain ⟨⟨e83, e84, e85, e86, e87, m2⟩, m1, lh, ls, lt, lg, lp⟩ := id a_land
  have t : ∀ k, 83 ≤ k → ¬ k = 119 → τ k = σ k := fun k z1 z2 => hk k (by omega) (by omega) (by omega) (by omega) (by omega) (by omega) (by omega) (by omega) (by omega) (by omega) z2
  have ew : weaM τ 2 = wea σ 2 := by
    rw [← wea_eq a_sky (by decide) (by decide)]
    unfold weaM
    rw [t 88 (by decide) (by decide), t 89 (by decide) (by decide), t 90 (by decide) (by decide), t 91 (by decide) (by decide), h12 1 (by decide), h12 8 (by decide)]
  have eC : CatR τ w = CatX σ w (wea σ 2) := by
    unfold CatR CatX
    rw [ew, t 83 (by decide) (by decide), t 84 (by decide) (by decide), t 85 (by decide) (by decide), e83, e84, e85]
  have hF : FiR τ := by
    unfold FiR
    rw [ew, t 83 (by decide) (by decide), t 84 (by decide) (by decide), t 85 (by decide) (by decide), t 88 (by decide) (by decide), h12 1 (by decide), h12 8 (by decide), e83, e84, e85]
    exact ⟨SkyR.of a_sky, wea_in (SkyX.of a_sky) 2, lh, fun i => by have := ls i; omega, lt⟩
  have hL : LiR τ := by
    unfold LiR
    rw [h12 17 (by decide), h12 7 (by decide), t 95 (by decide) (by decide), t 102 (by decide) (by decide), m2]
    refine ⟨by omega, m1, fun i hi => ?_⟩
    obtain ⟨-, ⟨-, gh⟩, gc, -⟩ := a_logB i (by omega)
    rcases gh with h | h | h | h | h <;> omega
  refine fire_m hF hL hw hm h1 (fun f hf => ?_)
  rw [eC] at hf
  have ef : ∀ c, c < 64 → f c + 1 = g c := fun c hc => by
    have := Spread_uni m _ _ hg hf c hc
    omega
  have e1 : clS (fun c => f c + 1) (τ 84 0) 64 = clS g (σ 29 0) 64 := by
    rw [t 84 (by decide) (by decide), e84]
    exact clS_congr (w := 64) (fun c hc => by rw [ef c hc]) 64 (Nat.le_refl _)
  have e2 : clT (fun c => f c + 1) (τ 85 0) 64 = clT g (σ 30 0) 64 := by
    rw [t 85 (by decide) (by decide), e85]
    exact clT_congr (w := 64) (fun c hc => by rw [ef c hc]) 64 (Nat.le_refl _)
  have eP : Pcj τ (fun c => f c + 1) 64 0 = (fun i : Nat => (i : Int) < σ 11 0 4 ∧ σ 102 0 i = 0 ∧ ¬ g (σ 95 0 i).toNat = 0) := by
    funext i
    apply propext
    unfold Pcj
    rw [h12 17 (by decide), t 95 (by decide) (by decide), t 102 (by decide) (by decide), v1]
    constructor
    · rintro ⟨⟨y1, y2, y3⟩, -⟩
      obtain ⟨-, -, gc, -⟩ := a_logB i y1
      have ec := ef (σ 95 0 i).toNat (by omega)
      exact ⟨y1, y2, fun z => y3 (by show f (σ 95 0 i).toNat + 1 = 0; omega)⟩
    · rintro ⟨y1, y2, y3⟩
      obtain ⟨-, -, gc, -⟩ := a_logB i y1
      have ec := ef (σ 95 0 i).toNat (by omega)
      exact ⟨⟨y1, y2, fun z => y3 (by have z2 : f (σ 95 0 i).toNat + 1 = 0 := z; omega)⟩, Or.inl (by omega)⟩
  rw [e1, e2, eP]
  refine ⟨lit_congr ef, ?_⟩
  obtain ⟨U, eU⟩ : ∃ U : St, U = stL (sta τ 141 0 f) (clS g (σ 29 0) 64) (clT g (σ 30 0) 64) (fun i : Nat => (i : Int) < σ 11 0 4 ∧ σ 102 0 i = 0 ∧ ¬ g (σ 95 0 i).toNat = 0) := ⟨_, rfl⟩
  rw [← eU]
  have rk : ∀ k, ¬ k = 84 → ¬ k = 85 → ¬ k = 102 → ¬ k = 104 → ¬ k = 105 → ¬ k = 141 → U k = τ k := fun k z1 z2 z3 z4 z5 z6 => by
    rw [eU]
    unfold stL
    rw [rH z1 z2 z3 z4 z5, ra_ne z6]
  have q4 := rk 4 (by decide) (by decide) (by decide) (by decide) (by decide) (by decide)
  have q35 := rk 35 (by decide) (by decide) (by decide) (by decide) (by decide) (by decide)
  have q36 := rk 36 (by decide) (by decide) (by decide) (by decide) (by decide) (by decide)
  have q37 := rk 37 (by decide) (by decide) (by decide) (by decide) (by decide) (by decide)
  have q31 := rk 31 (by decide) (by decide) (by decide) (by decide) (by decide) (by decide)
  have q29 := rk 29 (by decide) (by decide) (by decide) (by decide) (by decide) (by decide)
  have q30 := rk 30 (by decide) (by decide) (by decide) (by decide) (by decide) (by decide)
  have q12 := rk 12 (by decide) (by decide) (by decide) (by decide) (by decide) (by decide)
  have u102 : U 102 0 = cfv (σ 102 0) (fun _ => 3) (fun i => (i : Int) < σ 11 0 4 ∧ σ 102 0 i = 0 ∧ ¬ g (σ 95 0 i).toNat = 0) := by
    rw [eU]
    unfold stL stH
    rw [ra_ne (by decide), ra_ne (by decide), ra_eq, ra_ne (by decide), t 102 (by decide) (by decide)]
  have u104 : U 104 0 = cfv (σ 104 0) (fun _ => σ 7 0 3) (at5 (fun i => (i : Int) < σ 11 0 4 ∧ σ 102 0 i = 0 ∧ ¬ g (σ 95 0 i).toNat = 0) 3) := by
    rw [eU]
    unfold stL stH
    rw [ra_ne (by decide), ra_eq, ra_ne (by decide), ra_ne (by decide), t 104 (by decide) (by decide), h12 1 (by decide), k2]
  have u105 : U 105 0 = cfv (σ 105 0) (kdv (σ 7 0 3) (σ 3 0 6) (σ 95 0)) (at5 (fun i => (i : Int) < σ 11 0 4 ∧ σ 102 0 i = 0 ∧ ¬ g (σ 95 0 i).toNat = 0) 3) := by
    rw [eU]
    unfold stL stH
    rw [ra_eq, ra_ne (by decide), ra_ne (by decide), ra_ne (by decide), t 105 (by decide) (by decide), t 95 (by decide) (by decide), h12 1 (by decide), h12 7 (by decide), k2, m2]
  refine Inv_fire (g := g) hI0 (fun k z1 z2 z3 z4 z5 z6 z7 z8 z9 z10 z11 z12 z13 z14 z15 z16 z17 => by rw [rk k z11 z12 z13 z14 z15 z17]; exact hk k z1 z2 z3 z4 z5 z6 z7 z8 z9 z10 z16) (fun i hi => by rw [q12]; exact h12 i hi) (by rw [q29]; exact h29) (by rw [q30]; exact h30) ?_ ?_ (by rw [q4]; exact hA) (by rw [q4, q35, q36, q37, u102, u104, u105]; exact hB) (by rw [q31, u102]; exact hY) (by rw [u105]; exact I_kf_fire a_kf (by omega) m1 (fun i y => by obtain ⟨-, -, gc, -⟩ := a_logB i y.1; omega))
  · rw [eU]
    unfold stL stH
    rw [ra_ne (by decide), ra_ne (by decide), ra_ne (by decide), ra_ne (by decide), ra_eq]
  · rw [eU]
    unfold stL stH
    rw [ra_ne (by decide), ra_ne (by decide), ra_ne (by decide), ra_eq]
