/-! saw, side by side -/
theorem I_ord_dl {mn mn2 sk sk2 : Int} {t u l p s d t2 u2 l2 p2 s2 d2 : Nat → Int} {r : Dl} {w : Nat} (h : I_ord mn mn2 sk sk2 t u l p s d t2 u2 l2 p2 s2 d2) (hb : DlB mn r w) : I_ord mn mn2 r.2.2.1 r.2.2.1 t u r.1 p s r.2.1 t2 u2 r.1 p2 s2 r.2.1 := by
  obtain ⟨⟨h1, h2, h3, h4⟩, ⟨t1, t2, t3, t4, t5, t6⟩, h6⟩ := h
  refine ⟨⟨h1, h2, h3, rfl⟩, ⟨t1, t2, rfl, t4, t5, rfl⟩, fun i hi => ?_⟩
  have a := h6 i hi
  have b := hb.1 i hi
  omega
theorem Inv_saw {n l cell c w : Nat} {σ : St} {F G f F' f' L D : Nat → Int} {s k ly td kd : Int} (hI : Inv n σ) (hl : (l : Int) < σ 11 0 4) (h1 : σ 102 0 l = 1) (h9 : σ 4 l 9 = c) (h5 : σ 95 0 l = cell) (hly : ly = σ 31 0 cell + (nil01 2 - nil01 1)) (ht : 0 ≤ td ∧ td ≤ 3999) (hk : 0 ≤ kd ∧ kd ≤ 4010) (hb : DlB (σ 6 0 6) (L, D, s, k) w) :
    Inv (n + 1) (bcm (stE (sta (sta (st (bcx (stD (sta (sta (sta σ 61 0 F) 62 0 G) 63 0 f) (L, D, s, k)) l 2 cell ly c td kd) 12 0 0 0) 139 0 F') 140 0 f') (L, D, s, k)) l 2 2 td kd) := by
  obtain ⟨a_sky, a_land, a_price, a_ints, a_logA, a_logB, a_live, a_lying, a_ways, a_crews, a_dbl, a_tape, a_law, a_ord, a_spur, a_cuts, a_cru, a_kf, a_tn⟩ := hI
  unfold bcm stE bcx stD
  dsimp only
  unfold Inv
  simp (decide := true) only [rs_ne, rs_fn, upj_eq, upj_ne, up_eq, up_ne, ra_ne, ra_fn, upr_eq, upr_ne, not_false_eq_true, ne_eq]
  refine ⟨?_, ?_, ?_, ?_, ?_, ?_, ?_, ?_, ?_, ?_, ?_, ?_, ?_, ?_, ?_, ?_, ?_, ?_, ?_⟩
  · exact a_sky
  · exact a_land
  · exact a_price
  · exact I_ints_up a_ints
  · exact I_logA_step a_logA
  · exact I_logB_step a_logB hl (Or.inr ⟨h1, rfl⟩) h9 rfl rfl ht hk
  · exact a_live
  · exact I_lying_step a_lying hl h5 (by rw [h1]; exact hly)
  · exact a_ways
  · exact a_crews
  · exact a_dbl
  · exact a_tape
  · exact a_law
  · exact I_ord_dl a_ord hb
  · exact a_spur
  · exact a_cuts
  · exact a_cru
  · exact I_kf_up a_kf hk
  · exact a_tn
theorem PL_b {n l : Nat} {σ : St} {F G f : Nat → Int} (hI : Inv n σ) (h : PL σ l F G f) : ∀ p, p < (σ 98 0 l).toNat → -2 ≤ f p ∧ f p < σ 6 0 6 := by
  obtain ⟨a_sky, a_land, a_price, a_ints, a_logA, a_logB, a_live, a_lying, a_ways, a_crews, a_dbl, a_tape, a_law, a_ord, a_spur, a_cuts, a_cru, a_kf, a_tn⟩ := hI
  obtain ⟨o1, -, -⟩ := id a_ord
  obtain ⟨h1, h2, h3⟩ := h
  intro p hp
  have b := KAt_b (h2 p hp).2
  rw [h3 p hp]
  unfold bgv
  split <;> omega
theorem op_saw {n : Nat} {σ : St} {x1 : Int} (hI : Inv n σ) (h1 : inR x1) : wp_X11_saw σ x1 (fun r σ1 => wp_X12_saw σ1 x1 (fun r2 σ2 => r2 = r ∧ Inv (n + 1) σ2)) := by
  have hI0 := hI
  obtain ⟨a_sky, a_land, a_price, a_ints, a_logA, a_logB, a_live, a_lying, a_ways, a_crews, a_dbl, a_tape, a_law, a_ord, a_spur, a_cuts, a_cru, a_kf, a_tn⟩ := hI
  obtain ⟨v1, v2, v3, -⟩ := id a_live
  obtain ⟨o1, ⟨t1, t2, t3, t4, t5, t6⟩, o3⟩ := id a_ord
  obtain ⟨⟨k1, k2, k3⟩, k4, -⟩ := id a_sky
  obtain ⟨⟨-, -, -, -, -, m2⟩, m1, -⟩ := id a_land
  unfold wp_X11_saw
  refine pond_x hI0 h1 (fun u1 u2 u3 => ?_) (fun u => ?_)
  · obtain ⟨l, rfl⟩ : ∃ l : Nat, x1 = l := ⟨x1.toNat, by omega⟩
    rw [Int.toNat_natCast] at u3
    dsimp only
    rw [Int.toNat_natCast]
    obtain ⟨⟨f0, f1, f2, f3, f4, f6, -⟩, -, -, fb⟩ := a_logA l u2
    obtain ⟨⟨g5, g7, g8⟩, ⟨-, gh⟩, gc, -⟩ := a_logB l u2
    obtain ⟨l7, l4⟩ := v3 l u2
    have g9 : σ 4 l 9 = (2 : Nat) := by
      rcases gh with h | h | h | h | h <;> omega
    refine planX hI0 u2 (fun F G f hP => ?_)
    have pb := PL_b hI0 hP
    obtain ⟨S1, eS1⟩ : ∃ S : St, S = sta (sta (sta σ 61 0 F) 62 0 G) 63 0 f := ⟨_, rfl⟩
    rw [← eS1]
    have rk : ∀ k, ¬ k = 61 → ¬ k = 62 → ¬ k = 63 → S1 k = σ k := fun k z1 z2 z3 => by rw [eS1, ra_ne z3, ra_ne z2, ra_ne z1]
    have r63 : S1 63 0 = f := by rw [eS1, ra_eq]
    have hb0 : DlB (σ 6 0 6) (dlv f (σ 57 0) (σ 60 0) (σ 7 0 3) (σ 6 0 7) 0) 0 := ⟨fun i hi => by have := o3 i hi; show 0 ≤ σ 57 0 i ∧ σ 57 0 i ≤ 99 ∧ -1 ≤ σ 60 0 i ∧ σ 60 0 i ≤ 3999; omega, Int.le_refl _, Int.le_refl _⟩
    refine ⟨by rw [rk 50 (by decide) (by decide) (by decide)]; exact l4, 36, ?_⟩
    have E := dx_loop (σ := S1) (wd := (σ 98 0 l).toNat) (td := σ 7 0 3) (s0 := σ 6 0 7) (f := f) (L0 := σ 57 0) (D0 := σ 60 0) (Q := fun r_6 σ_5 => wp_X11_become σ_5 l 2 (fun σ_7 => wp_X12_saw σ_7 l (fun r2 σ2 => r2 = r_6 ∧ Inv (n + 1) σ2))) (by rw [rk 6 (by decide) (by decide) (by decide)]; omega) (by omega) (by omega) (by rw [r63, rk 6 (by decide) (by decide) (by decide)]; exact fun p hp => ⟨rfl, pb p hp⟩) ?_ (σ 98 0 l).toNat 0 36 (by omega) (by omega) (by rw [rk 6 (by decide) (by decide) (by decide)]; exact hb0)
    · have es : stD S1 (dlv f (σ 57 0) (σ 60 0) (σ 7 0 3) (σ 6 0 7) 0) = S1 := by
        show sta (sta (st S1 6 0 7 (σ 6 0 7)) 57 0 (σ 57 0)) 60 0 (σ 60 0) = S1
        rw [← rk 6 (by decide) (by decide) (by decide), ← rk 57 (by decide) (by decide) (by decide), ← rk 60 (by decide) (by decide) (by decide), st_self, sta_self, sta_self]
      rw [es] at E
      rw [rk 4 (by decide) (by decide) (by decide), rk 7 (by decide) (by decide) (by decide), f2, show σ 98 0 l = ((σ 98 0 l).toNat : Int) by omega]
      exact E
    rw [rk 6 (by decide) (by decide) (by decide)]
    intro hb
    obtain ⟨R, eR⟩ : ∃ R, R = dlv f (σ 57 0) (σ 60 0) (σ 7 0 3) (σ 6 0 7) (σ 98 0 l).toNat := ⟨_, rfl⟩
    rw [← eR] at hb ⊢
    obtain ⟨S2, eS2⟩ : ∃ S : St, S = stD S1 R := ⟨_, rfl⟩
    rw [← eS2]
    have rj : ∀ k, ¬ k = 61 → ¬ k = 62 → ¬ k = 63 → ¬ k = 6 → ¬ k = 57 → ¬ k = 60 → S2 k = σ k := fun k z1 z2 z3 z4 z5 z6 => by rw [eS2]; unfold stD; rw [ra_ne z6, ra_ne z5, rs_ne z4, rk k z1 z2 z3]
    have j4 := rj 4 (by decide) (by decide) (by decide) (by decide) (by decide) (by decide)
    have j3 := rj 3 (by decide) (by decide) (by decide) (by decide) (by decide) (by decide)
    have j7 := rj 7 (by decide) (by decide) (by decide) (by decide) (by decide) (by decide)
    have j31 := rj 31 (by decide) (by decide) (by decide) (by decide) (by decide) (by decide)
    have j50 := rj 50 (by decide) (by decide) (by decide) (by decide) (by decide) (by decide)
    refine sx_become (s := 1) (cell := (σ 95 0 l).toNat) (c := 2) (td := σ 7 0 3) (by rw [j50]; exact l4) (by rw [j4]; omega) in1 ⟨by decide, by decide⟩ (by rw [j4]; omega) (by omega) (by rw [j4]; exact g9) (by decide) (by rw [j3]; exact m1) (by rw [j7]) ?_
    rw [j31, j3]
    have ab := apv_b (a := (((σ 95 0 l).toNat : Nat) : Int)) (b := σ 3 0 6) (by omega) (by omega) m1.1 m1.2
    obtain ⟨kd, ekd⟩ : ∃ kd, kd = σ 7 0 3 + Int.tdiv (apv ((σ 95 0 l).toNat : Nat) (σ 3 0 6)) 4 := ⟨_, rfl⟩
    have hkd : 0 ≤ kd ∧ kd ≤ 4010 := by
      rw [ekd, Int.tdiv_eq_ediv_of_nonneg ab.1]
      omega
    rw [← ekd]
    obtain ⟨ly, ely⟩ : ∃ ly, ly = σ 31 0 (σ 95 0 l).toNat + (nil01 2 - nil01 1) := ⟨_, rfl⟩
    rw [← ely]
    obtain ⟨S3, eS3⟩ : ∃ S : St, S = bcx S2 l 2 (σ 95 0 l).toNat ly 2 (σ 7 0 3) kd := ⟨_, rfl⟩
    rw [← eS3]
    intro τ eτ
    have hk : ∀ k, 83 ≤ k → τ k = σ k := fun k hk => by
      rw [eτ, rs_ne (by omega), eS3]
      unfold bcx
      rw [rs_ne (by omega), rs_ne (by omega), rs_ne (by omega), rs_ne (by omega), rs_ne (by omega), rs_ne (by omega)]
      exact rj k (by omega) (by omega) (by omega) (by omega) (by omega) (by omega)
    have h12 : ∀ i, ¬ i = 0 → τ 12 0 i = σ 12 0 i := fun i hi => by
      rw [eτ, rs_eq, up_ne hi, eS3]
      unfold bcx
      rw [rs_ne (by decide), rs_ne (by decide), rs_ne (by decide), rs_ne (by decide), rs_ne (by decide), rs_ne (by decide), rj 12 (by decide) (by decide) (by decide) (by decide) (by decide) (by decide)]
    refine pond_m hI0 h1 hk h12 (fun _ _ _ => ⟨in1, fun _ => ?_, fun z => absurd z (by decide)⟩) (fun z => absurd ⟨u1, u2, by rw [Int.toNat_natCast]; exact u3⟩ z)
    refine planM hI0 u2 hk h12 hP (fun F' f' ef => ⟨36, ?_⟩)
    obtain ⟨S4, eS4⟩ : ∃ S : St, S = sta (sta τ 139 0 F') 140 0 f' := ⟨_, rfl⟩
    rw [← eS4]
    have ri : ∀ k, ¬ k = 139 → ¬ k = 140 → S4 k = τ k := fun k z1 z2 => by rw [eS4, ra_ne z2, ra_ne z1]
    have i140 : S4 140 0 = f' := by rw [eS4, ra_eq]
    have i12 : ∀ i, ¬ i = 0 → S4 12 0 i = σ 12 0 i := fun i hi => by rw [ri 12 (by decide) (by decide), h12 i hi]
    have ik : ∀ k, 83 ≤ k → ¬ k = 139 → ¬ k = 140 → S4 k = σ k := fun k z1 z2 z3 => by rw [ri k z2 z3, hk k z1]
    have eR2 : dlv f' (σ 57 0) (σ 60 0) (σ 7 0 3) (σ 6 0 7) (σ 98 0 l).toNat = R := by
      rw [eR]
      exact dlv_congr (w := (σ 98 0 l).toNat) (fun p hp => ef p (by omega)) _ (Nat.le_refl _)
    have E2 := dm_loop (σ := S4) (l := l) (wd := (σ 98 0 l).toNat) (N := σ 6 0 6) (td := σ 7 0 3) (s0 := σ 6 0 7) (f := f') (L0 := σ 57 0) (D0 := σ 60 0) (K := wp_X12_saw_115 (fun r2 σ2 => r2 = R.2.2.2 ∧ Inv (n + 1) σ2)) (Q := fun r2 σ2 => r2 = R.2.2.2 ∧ Inv (n + 1) σ2) (by omega) (by rw [ik 98 (by decide) (by decide) (by decide)]; omega) (by omega) (by omega) (by omega) (by rw [i12 1 (by decide)]; exact k2) (fun p hp => by rw [i140, ef p (by omega)]; exact ⟨rfl, pb p hp⟩) ?_ (σ 98 0 l).toNat 0 36 (by omega) (by omega) hb0
    · have es : stE S4 (dlv f' (σ 57 0) (σ 60 0) (σ 7 0 3) (σ 6 0 7) 0) = S4 := by
        show sta (sta (st S4 12 0 78 (σ 6 0 7)) 135 0 (σ 57 0)) 138 0 (σ 60 0) = S4
        rw [← t3, ← t6, ← o1.2.2.2, ← i12 78 (by decide), ← ik 135 (by decide) (by decide) (by decide), ← ik 138 (by decide) (by decide) (by decide), st_self, sta_self, sta_self]
      rw [es] at E2
      exact E2
    rw [eR2]
    unfold wp_X12_saw_115
    have rq : ∀ k, ¬ k = 12 → ¬ k = 135 → ¬ k = 138 → stE S4 R k = S4 k := fun k z1 z2 z3 => by unfold stE; rw [ra_ne z3, ra_ne z2, rs_ne z1]
    have rq12 : ∀ i, ¬ i = 78 → stE S4 R 12 0 i = S4 12 0 i := fun i hi => by unfold stE; rw [ra_ne (by decide), ra_ne (by decide), rs_eq, up_ne hi]
    have q7 : stE S4 R 12 0 7 = σ 3 0 6 := by rw [rq12 7 (by decide), i12 7 (by decide)]; exact m2
    refine sm_becomes (k := 2) (td := σ 7 0 3) (cell := ((σ 95 0 l).toNat : Nat)) (by omega) rfl (by decide) (by rw [rq 95 (by decide) (by decide) (by decide), ik 95 (by decide) (by decide) (by decide)]; omega) (by omega) (by rw [q7]; exact m1) (by rw [rq12 1 (by decide), i12 1 (by decide)]; exact k2) ⟨rfl, ?_⟩
    rw [q7, ← ekd, eS4, eτ, eS3, eS2, eS1]
    clear eR2 rq rq12 q7
    clear eS2 eR
    obtain ⟨L, D, s, k⟩ := R
    exact Inv_saw (w := (σ 98 0 l).toNat) hI0 u2 u3 g9 (by omega) ely (by omega) hkd hb
  · intro τ eτ
    obtain ⟨hk, h12⟩ := hk_t eτ
    exact pond_m hI0 h1 hk h12 (fun z1 z2 z3 => absurd ⟨z1, z2, z3⟩ u) (fun z => ⟨in0, fun c => absurd rfl c, fun _ => ⟨rfl, by rw [eτ]; exact Inv_t hI0⟩⟩)
