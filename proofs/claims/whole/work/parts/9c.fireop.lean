/-! the call fire -/
theorem op_fire {n : Nat} {σ : St} {x1 x2 x3 : Int} (hI : Inv n σ) (h1 : inR x1) (h2 : inR x2) (h3 : inR x3) : wp_X11_fire σ x1 x2 x3 (fun r σ1 => wp_X12_fire σ1 x1 x2 x3 (fun r2 σ2 => r2 = r ∧ Inv (n + 1) σ2)) := by
  have hI0 := hI
  obtain ⟨a_sky, a_land, a_price, a_ints, a_logA, a_logB, a_live, a_lying, a_ways, a_crews, a_dbl, a_tape, a_law, a_ord, a_spur, a_cuts, a_cru, a_kf, a_tn⟩ := hI
  obtain ⟨v1, v2, v3, -⟩ := id a_live
  obtain ⟨⟨e83, e84, e85, e86, e87, m2⟩, m1, lh, ls, lt, lg, lp⟩ := id a_land
  have hno : ¬ (0 ≤ x1 ∧ x1 ≤ 63 ∧ 0 ≤ x2 ∧ x2 ≤ 3 ∧ 1 ≤ x3 ∧ x3 ≤ 20) → wp_X12_fire σ x1 x2 x3 (fun r2 σ2 => r2 = -1 ∧ Inv (n + 1) σ2) := by
    intro hc τ eτ
    have hi : Inv (n + 1) τ := by rw [eτ]; exact Inv_t hI0
    unfold wp_X12_isCell
    refine wi_m h1 in0 ⟨by decide, by decide⟩ (fun a b => ⟨Or.inr rfl, in1, fun c => absurd c (by decide), fun _ => ?_⟩) (fun a => ⟨Or.inl rfl, in0, fun _ => ⟨rfl, hi⟩, fun c => absurd rfl c⟩)
    refine wi_m h2 in0 ⟨by decide, by decide⟩ (fun a2 b2 => ⟨in1, fun c => absurd c (by decide), fun _ => ?_⟩) (fun a => ⟨in0, fun _ => ⟨rfl, hi⟩, fun c => absurd rfl c⟩)
    exact wi_m h3 in1 ⟨by decide, by decide⟩ (fun a3 b3 => absurd ⟨a, b, a2, b2, a3, b3⟩ hc) (fun a => ⟨in0, fun _ => ⟨rfl, hi⟩, fun c => absurd rfl c⟩)
  unfold wp_X11_fire wp_X11_isCell
  refine wi_x h1 in0 ⟨by decide, by decide⟩ (fun a b => ⟨Or.inr rfl, in1, fun c => absurd c (by decide), fun _ => ?_⟩) (fun a => ⟨Or.inl rfl, in0, fun _ => hno (by omega), fun c => absurd rfl c⟩)
  refine wi_x h2 in0 ⟨by decide, by decide⟩ (fun a2 b2 => ⟨in1, fun c => absurd c (by decide), fun _ => ?_⟩) (fun a => ⟨in0, fun _ => hno (by omega), fun c => absurd rfl c⟩)
  refine wi_x h3 in1 ⟨by decide, by decide⟩ (fun a3 b3 => ⟨in1, fun _ => ?_, fun c => absurd c (by decide)⟩) (fun a => ⟨in0, fun c => absurd rfl c, fun _ => hno (by omega)⟩)
  obtain ⟨c, rfl⟩ : ∃ c : Nat, x1 = c := ⟨x1.toNat, by omega⟩
  obtain ⟨m, rfl⟩ : ∃ m : Nat, x3 = m := ⟨x3.toNat, by omega⟩
  refine fire_x ⟨lh, fun i => by have := ls i; omega, lt⟩ (SkyX.of a_sky) ⟨a2, b2⟩ (by omega) (by omega) v2 v3 m1 a_logA a_logB a_lying (fun g S hg hS => ?_)
  intro τ eτ
  unfold wp_X12_isCell
  refine wi_m h1 in0 ⟨by decide, by decide⟩ (fun _ _ => ⟨Or.inr rfl, in1, fun c => absurd c (by decide), fun _ => ?_⟩) (fun z => absurd ⟨a, b⟩ z)
  refine wi_m h2 in0 ⟨by decide, by decide⟩ (fun _ _ => ⟨in1, fun c => absurd c (by decide), fun _ => ?_⟩) (fun z => absurd ⟨a2, b2⟩ z)
  refine wi_m h3 in1 ⟨by decide, by decide⟩ (fun _ _ => ⟨in1, fun c => absurd c (by decide), fun _ => ?_⟩) (fun z => absurd ⟨a3, b3⟩ z)
  obtain ⟨g1, g2, g3, g4⟩ := hS
  have rk : ∀ k, ¬ k = 34 → ¬ k = 29 → ¬ k = 30 → stC σ g k = σ k := fun k z1 z2 z3 => rC z1 z2 z3
  have tS : ∀ k, ¬ k = 12 → τ k = S k := fun k z => by rw [eτ, rs_ne z]
  rw [rk 11 (by decide) (by decide) (by decide), rk 38 (by decide) (by decide) (by decide), rk 96 (by decide) (by decide) (by decide), rk 97 (by decide) (by decide) (by decide), rk 98 (by decide) (by decide) (by decide), rk 99 (by decide) (by decide) (by decide), rk 100 (by decide) (by decide) (by decide), rk 101 (by decide) (by decide) (by decide), rk 106 (by decide) (by decide) (by decide), rk 107 (by decide) (by decide) (by decide), rk 108 (by decide) (by decide) (by decide)] at g2
  rw [rk 11 (by decide) (by decide) (by decide), rk 95 (by decide) (by decide) (by decide), rk 102 (by decide) (by decide) (by decide), rk 103 (by decide) (by decide) (by decide), rk 104 (by decide) (by decide) (by decide), rk 105 (by decide) (by decide) (by decide), rk 3 (by decide) (by decide) (by decide)] at g3
  rw [rk 11 (by decide) (by decide) (by decide), rk 95 (by decide) (by decide) (by decide), rk 102 (by decide) (by decide) (by decide)] at g4
  refine fire_end (g := g) hI0 ⟨a2, b2⟩ (by omega) (by omega) hg (fun k z1 z2 z3 z4 z5 z6 z7 z8 z9 z10 z11 => ?_) (fun i hi => ?_) ?_ ?_ (by rw [tS 4 (by decide)]; exact g2) (by rw [tS 4 (by decide), tS 35 (by decide), tS 36 (by decide), tS 37 (by decide)]; exact g3) (by rw [tS 31 (by decide)]; exact g4)
  · rw [tS k z2, g1 k z1 z5 z7 z8 z9, rk k z6 z3 z4]
  · rw [eτ, rs_eq, up_ne hi, g1 12 (by decide) (by decide) (by decide) (by decide) (by decide), rk 12 (by decide) (by decide) (by decide)]
  · rw [tS 29 (by decide), g1 29 (by decide) (by decide) (by decide) (by decide) (by decide)]
    unfold stC
    rw [ra_ne (by decide), ra_eq]
  · rw [tS 30 (by decide), g1 30 (by decide) (by decide) (by decide) (by decide) (by decide)]
    unfold stC
    rw [ra_eq]
