/-! of and count -/
theorem op_of {n : Nat} {σ : St} {x1 x2 : Int} (hI : Inv n σ) (h1 : inR x1) (h2 : inR x2) : wp_X11_of σ x1 x2 (fun r σ1 => wp_X12_of σ1 x1 x2 (fun r2 σ2 => r2 = r ∧ Inv (n + 1) σ2)) := by
  have hI0 := hI
  obtain ⟨a_sky, a_land, a_price, a_ints, a_logA, a_logB, a_live, a_lying, a_ways, a_crews, a_dbl, a_tape, a_law, a_ord, a_spur, a_cuts, a_cru, a_kf, a_tn⟩ := hI
  obtain ⟨⟨l1, l2, l3, l4, l5, l6⟩, lm, lh, ls, lt, -⟩ := id a_land
  obtain ⟨v1, v2, v3, -⟩ := id a_live
  unfold wp_X11_of wp_X11_isCell
  refine wi_x h1 in0 ⟨by decide, by decide⟩ (fun a b => ⟨Or.inr rfl, in1, fun _ => ?_, fun c => absurd c (by decide)⟩) (fun a => ⟨Or.inl rfl, in0, fun c => absurd rfl c, fun _ => ?_⟩)
  · obtain ⟨c, ec⟩ : ∃ c : Nat, (c : Int) = x1 := ⟨x1.toNat, by omega⟩
    have ec2 : x1.toNat = c := by omega
    have m : ∀ v : Int, (x2 = 0 → v = σ 28 0 c) → (x2 = 1 → v = σ 29 0 c) → (x2 = 2 → v = σ 31 0 c) → (x2 = 3 → v = apv x1 (σ 3 0 6)) → (x2 = 4 → v = sumv (fun i => σ 30 0 (16 * c + i)) 16) → ((x2 < 0 ∨ 4 < x2) → ¬ (5 ≤ x2 ∧ x2 ≤ 20) → v = -1) → (5 ≤ x2 → x2 ≤ 20 → v = σ 30 0 (Int.toNat (x1 * 16 + x2 - 5))) → wp_X12_of σ x1 x2 (fun r2 σ2 => r2 = v ∧ Inv (n + 1) σ2) := by
      intro v p0 p1 p2 p3 p4 p5 p6 τ eτ
      have t12 : ∀ i, i ≠ 0 → τ 12 0 i = σ 12 0 i := fun i hi => by rw [eτ, rs_eq, up_ne hi]
      have tk : ∀ k, ¬ k = 12 → τ k = σ k := fun k hk => by rw [eτ, rs_ne hk]
      have hi : Inv (n + 1) τ := by rw [eτ]; exact Inv_t hI0
      unfold wp_X12_isCell
      refine wi_m h1 in0 ⟨by decide, by decide⟩ (fun _ _ => ⟨Or.inr rfl, in1, fun _ => ?_, fun c => absurd c (by decide)⟩) (fun z => absurd ⟨a, b⟩ z)
      refine ⟨h2, fun e => ⟨by omega, by omega, ?_, hi⟩, fun e => ⟨by omega, by omega, ?_, hi⟩, fun e => ?_, fun e => ?_, fun e => ?_, fun e => ?_⟩
      · rw [tk 83 (by decide), l1, ec2, p0 e]
      · rw [tk 84 (by decide), l2, ec2, p1 e]
      · refine ⟨301, lies_loop h1 (by rw [t12 17 (by decide)]; omega) (fun i hi9 => ?_) ⟨?_, hi⟩ (σ 11 0 4).toNat 0 301 (by rw [t12 17 (by decide)]; omega) (by omega)⟩
        · rw [t12 17 (by decide)] at hi9
          obtain ⟨⟨g5, g7, g8⟩, gh, gc, -⟩ := a_logB i (by omega)
          rw [tk 102 (by decide), tk 95 (by decide)]
          have : 0 ≤ σ 102 0 i ∧ σ 102 0 i ≤ 4 := by
            obtain ⟨-, h⟩ := gh
            rcases h with h | h | h | h | h <;> omega
          exact ⟨⟨by omega, by omega⟩, ⟨by omega, by omega⟩⟩
        · rw [p2 e, tk 102 (by decide), tk 95 (by decide), t12 17 (by decide), v1, a_lying c (by omega), ec]
      · refine sm_farOf a b (by rw [t12 7 (by decide)]; omega) (by rw [t12 7 (by decide)]; omega) ⟨?_, hi⟩
        rw [t12 7 (by decide), l6, p3 e]
      · rw [← ec]
        refine sm_stemsOf (by omega) ⟨?_, hi⟩
        rw [tk 85 (by decide), l3, p4 e]
      · refine wi_m h2 ⟨by decide, by decide⟩ ⟨by decide, by decide⟩ (fun a2 b2 => ⟨in1, fun c => absurd c (by decide), fun _ => ⟨by omega, by omega, ?_, hi⟩⟩) (fun a2 => ⟨in0, fun _ => ⟨(p5 e a2).symm, hi⟩, fun c => absurd rfl c⟩)
        rw [tk 85 (by decide), l3, p6 a2 b2]
        congr 1
        omega
    refine ⟨h2, fun e => ⟨by omega, by omega, ?_⟩, fun e => ⟨by omega, by omega, ?_⟩, fun e => ⟨by omega, by omega, ?_⟩, fun e => ?_, fun e => ?_, fun e => ?_⟩
    · rw [ec2]
      exact m _ (fun _ => rfl) (fun z => absurd z (by omega)) (fun z => absurd z (by omega)) (fun z => absurd z (by omega)) (fun z => absurd z (by omega)) (fun z => absurd z (by omega)) (fun z => absurd z (by omega))
    · rw [ec2]
      exact m _ (fun z => absurd z (by omega)) (fun _ => rfl) (fun z => absurd z (by omega)) (fun z => absurd z (by omega)) (fun z => absurd z (by omega)) (fun z => absurd z (by omega)) (fun z => absurd z (by omega))
    · rw [ec2]
      exact m _ (fun z => absurd z (by omega)) (fun z => absurd z (by omega)) (fun _ => rfl) (fun z => absurd z (by omega)) (fun z => absurd z (by omega)) (fun z => absurd z (by omega)) (fun z => absurd z (by omega))
    · exact sx_apart a b lm.1 lm.2 (m _ (fun z => absurd z (by omega)) (fun z => absurd z (by omega)) (fun z => absurd z (by omega)) (fun _ => rfl) (fun z => absurd z (by omega)) (fun z => absurd z (by omega)) (fun z => absurd z (by omega)))
    · have mm := m _ (fun z => absurd z (by omega)) (fun z => absurd z (by omega)) (fun z => absurd z (by omega)) (fun z => absurd z (by omega)) (fun _ => rfl) (fun z => absurd z (by omega)) (fun z => absurd z (by omega))
      have s := sx_stemsIn (σ := σ) (c := c) (Q := fun r σ1 => wp_X12_of σ1 x1 x2 (fun r2 σ2 => r2 = r ∧ Inv (n + 1) σ2)) (by omega) mm
      rw [ec] at s
      exact s
    · refine wi_x h2 ⟨by decide, by decide⟩ ⟨by decide, by decide⟩ (fun a2 b2 => ⟨in1, fun c => absurd c (by decide), fun _ => ⟨by omega, by omega, ?_⟩⟩) (fun a2 => ⟨in0, fun _ => ?_, fun c => absurd rfl c⟩)
      · exact m _ (fun z => absurd z (by omega)) (fun z => absurd z (by omega)) (fun z => absurd z (by omega)) (fun z => absurd z (by omega)) (fun z => absurd z (by omega)) (fun _ z => absurd ⟨a2, b2⟩ z) (fun _ _ => rfl)
      · exact m _ (fun z => absurd z (by omega)) (fun z => absurd z (by omega)) (fun z => absurd z (by omega)) (fun z => absurd z (by omega)) (fun z => absurd z (by omega)) (fun _ _ => rfl) (fun z1 z2 => absurd ⟨z1, z2⟩ a2)
  · intro τ eτ
    unfold wp_X12_isCell
    exact wi_m h1 in0 ⟨by decide, by decide⟩ (fun z1 z2 => absurd ⟨z1, z2⟩ a) (fun _ => ⟨Or.inl rfl, in0, fun c => absurd rfl c, fun _ => ⟨rfl, by rw [eτ]; exact Inv_t hI0⟩⟩)
theorem op_count {n : Nat} {σ : St} {x1 : Int} (hI : Inv n σ) (h1 : inR x1) : wp_X11_count σ x1 (fun r σ1 => wp_X12_count σ1 x1 (fun r2 σ2 => r2 = r ∧ Inv (n + 1) σ2)) := by
  have hI0 := hI
  obtain ⟨a_sky, a_land, a_price, a_ints, a_logA, a_logB, a_live, a_lying, a_ways, a_crews, a_dbl, a_tape, a_law, a_ord, a_spur, a_cuts, a_cru, a_kf, a_tn⟩ := hI
  obtain ⟨v1, v2, v3, -⟩ := id a_live
  obtain ⟨⟨k1, k2, k3⟩, k4, -⟩ := id a_sky
  obtain ⟨⟨l1, l2, l3, l4, l5, l6⟩, -⟩ := id a_land
  obtain ⟨⟨w1, w2, w3⟩, w4, -⟩ := id a_ways
  obtain ⟨⟨c1, c2, c3⟩, c4, -⟩ := id a_crews
  obtain ⟨⟨i1, i2, i3⟩, -⟩ := id a_ints
  obtain ⟨⟨t1, -⟩, -⟩ := id a_law
  obtain ⟨⟨o1, o2, o3, o4⟩, -⟩ := id a_ord
  obtain ⟨⟨p1, -⟩, -⟩ := id a_tape
  obtain ⟨⟨d1, -⟩, -⟩ := id a_dbl
  obtain ⟨⟨s1, -⟩, -⟩ := id a_spur
  have sb : ∀ i : Nat, (i : Int) < σ 11 0 4 → 0 ≤ σ 102 0 i ∧ σ 102 0 i ≤ 4 ∧ σ 4 i 8 = σ 102 0 i := fun i hi => by
    obtain ⟨⟨g5, g7, g8⟩, gh, -⟩ := a_logB i hi
    obtain ⟨-, h⟩ := gh
    rcases h with h | h | h | h | h <;> omega
  have m : ∀ v : Int, ((x1 = 0 → v = σ 7 0 3) ∧ (x1 = 1 → v = σ 11 0 4) ∧ (x1 = 2 → v = σ 11 0 6) ∧ (x1 = 3 → v = σ 11 0 7) ∧ (x1 = 4 → v = sumv (fun i => if σ 10 i 3 = 0 then 0 else 10) (σ 11 0 6).toNat) ∧ (x1 = 5 → v = σ 8 0 10) ∧ (x1 = 6 → v = σ 11 0 11) ∧ (x1 = 7 → v = σ 6 0 6) ∧ (x1 = 8 → v = σ 6 0 7) ∧ (x1 = 9 → v = σ 9 0 1) ∧ (x1 = 10 → v = σ 11 0 16) ∧ (x1 = 11 → v = σ 5 0 3) ∧ (x1 = 12 → v = sumv (fun i => σ 1 i 3) (σ 11 0 11).toNat) ∧ (x1 = 13 → v = sumv (fun c => sumv (fun i => σ 30 0 (16 * c + i)) 16) 64)) → (¬ (20 ≤ x1 ∧ x1 ≤ 24) → (x1 < 0 ∨ 13 < x1) → v = -1) → (20 ≤ x1 → x1 ≤ 24 → v = sumv (fun i => if σ 4 i 8 = x1 - 20 then 1 else 0) (σ 11 0 4).toNat) → wp_X12_count σ x1 (fun r2 σ2 => r2 = v ∧ Inv (n + 1) σ2) := by
    intro v p pn pl τ eτ
    obtain ⟨p0, p1', p2, p3, p4, p5, p6, p7, p8, p9, p10, p11, p12, p13⟩ := p
    have t12 : ∀ i, i ≠ 0 → τ 12 0 i = σ 12 0 i := fun i hi => by rw [eτ, rs_eq, up_ne hi]
    have tk : ∀ k, ¬ k = 12 → τ k = σ k := fun k hk => by rw [eτ, rs_ne hk]
    have hi : Inv (n + 1) τ := by rw [eτ]; exact Inv_t hI0
    refine ⟨h1, fun e => ⟨?_, hi⟩, fun e => ⟨?_, hi⟩, fun e => ⟨?_, hi⟩, fun e => ⟨?_, hi⟩, fun e => ?_, fun e => ⟨?_, hi⟩, fun e => ⟨?_, hi⟩, fun e => ⟨?_, hi⟩, fun e => ⟨?_, hi⟩, fun e => ⟨?_, hi⟩, fun e => ⟨?_, hi⟩, fun e => ⟨?_, hi⟩, fun e => ?_, fun e => ?_, fun e => ?_⟩
    · rw [t12 1 (by decide), k2, p0 e]
    · rw [t12 17 (by decide), v1, p1' e]
    · rw [t12 53 (by decide), w1, p2 e]
    · rw [t12 59 (by decide), i1, p3 e]
    · refine ⟨41, ironm_loop (by rw [t12 53 (by decide)]; omega) (fun i hi9 => ?_) ⟨?_, hi⟩ (σ 11 0 6).toNat 0 41 (by rw [t12 53 (by decide)]; omega) (by omega)⟩
      · rw [t12 53 (by decide)] at hi9
        have := w4 i (by omega)
        rw [tk 123 (by decide)]
        exact ⟨by omega, by omega⟩
      · rw [p4 e, tk 123 (by decide), t12 53 (by decide), w1]
        exact sumv_congr (fun i hi9 => by
          have := (w4 i (by omega)).2.1.2.2.2.1
          rw [this])
    · rw [t12 33 (by decide), t1, p5 e]
    · rw [t12 60 (by decide), c1, p6 e]
    · rw [t12 71 (by decide), o1, p7 e]
    · rw [t12 78 (by decide), o4, p8 e]
    · rw [t12 44 (by decide), p1, p9 e]
    · rw [t12 67 (by decide), d1, p10 e]
    · rw [t12 82 (by decide), s1, p11 e]
    · refine ⟨21, wagem_loop (by rw [t12 60 (by decide)]; omega) ⟨?_, hi⟩ (σ 11 0 11).toNat 0 21 (by rw [t12 60 (by decide)]; omega) (by omega)⟩
      rw [p12 e, tk 128 (by decide), t12 60 (by decide), c1]
      exact sumv_congr (fun i hi9 => ((c4 i (by omega)).2.1.2.2.2.1).symm)
    · refine ⟨1025, all2_loop ⟨?_, hi⟩ 1024 0 1025 (by omega) (by omega)⟩
      rw [p13 e, tk 85 (by decide), l3]
      exact sumv_blk (σ 30 0) 64
    · refine ⟨301, becamem_loop (by rw [t12 17 (by decide)]; omega) (fun i hi9 => ?_) ?_ (σ 11 0 4).toNat 0 301 (by rw [t12 17 (by decide)]; omega) (by omega)⟩
      · rw [t12 17 (by decide)] at hi9
        have := sb i (by omega)
        rw [tk 102 (by decide)]
        exact ⟨by omega, by omega⟩
      · unfold wp_X12_count_261
        refine wi_m h1 ⟨by decide, by decide⟩ ⟨by decide, by decide⟩ (fun a2 b2 => ⟨in1, fun c => absurd c (by decide), fun _ => ⟨?_, hi⟩⟩) (fun a2 => ⟨in0, fun _ => ⟨(pn a2 e).symm, hi⟩, fun c => absurd rfl c⟩)
        rw [pl a2 b2, tk 102 (by decide), t12 17 (by decide), v1, wr_id ⟨by omega, by omega⟩]
        exact sumv_congr (fun i hi9 => by rw [(sb i (by omega)).2.2])
  have big : ∀ P : Prop, x1 = 0 ∨ x1 = 1 ∨ x1 = 2 ∨ x1 = 3 ∨ x1 = 4 ∨ x1 = 5 ∨ x1 = 6 ∨ x1 = 7 ∨ x1 = 8 ∨ x1 = 9 ∨ x1 = 10 ∨ x1 = 11 ∨ x1 = 12 ∨ x1 = 13 → (20 ≤ x1 → x1 ≤ 24 → P) ∧ (¬ (20 ≤ x1 ∧ x1 ≤ 24) → (x1 < 0 ∨ 13 < x1) → P) := fun P h => ⟨fun z => absurd z (by omega), fun _ z => absurd z (by omega)⟩
  unfold wp_X11_count
  refine ⟨h1, fun e => ?_, fun e => ?_, fun e => ?_, fun e => ?_, fun e => ?_, fun e => ?_, fun e => ?_, fun e => ?_, fun e => ?_, fun e => ?_, fun e => ?_, fun e => ?_, fun e => ?_, fun e => ?_, fun e => ?_⟩
  · exact m _ ⟨fun _ => rfl, fun z => absurd z (by omega), fun z => absurd z (by omega), fun z => absurd z (by omega), fun z => absurd z (by omega), fun z => absurd z (by omega), fun z => absurd z (by omega), fun z => absurd z (by omega), fun z => absurd z (by omega), fun z => absurd z (by omega), fun z => absurd z (by omega), fun z => absurd z (by omega), fun z => absurd z (by omega), fun z => absurd z (by omega)⟩ (big _ (by omega)).2 (big _ (by omega)).1
  · exact m _ ⟨fun z => absurd z (by omega), fun _ => rfl, fun z => absurd z (by omega), fun z => absurd z (by omega), fun z => absurd z (by omega), fun z => absurd z (by omega), fun z => absurd z (by omega), fun z => absurd z (by omega), fun z => absurd z (by omega), fun z => absurd z (by omega), fun z => absurd z (by omega), fun z => absurd z (by omega), fun z => absurd z (by omega), fun z => absurd z (by omega)⟩ (big _ (by omega)).2 (big _ (by omega)).1
  · exact m _ ⟨fun z => absurd z (by omega), fun z => absurd z (by omega), fun _ => rfl, fun z => absurd z (by omega), fun z => absurd z (by omega), fun z => absurd z (by omega), fun z => absurd z (by omega), fun z => absurd z (by omega), fun z => absurd z (by omega), fun z => absurd z (by omega), fun z => absurd z (by omega), fun z => absurd z (by omega), fun z => absurd z (by omega), fun z => absurd z (by omega)⟩ (big _ (by omega)).2 (big _ (by omega)).1
  · exact m _ ⟨fun z => absurd z (by omega), fun z => absurd z (by omega), fun z => absurd z (by omega), fun _ => rfl, fun z => absurd z (by omega), fun z => absurd z (by omega), fun z => absurd z (by omega), fun z => absurd z (by omega), fun z => absurd z (by omega), fun z => absurd z (by omega), fun z => absurd z (by omega), fun z => absurd z (by omega), fun z => absurd z (by omega), fun z => absurd z (by omega)⟩ (big _ (by omega)).2 (big _ (by omega)).1
  · exact ⟨41, iron_loop w3 (fun i hi => by have w5 := w4 i hi; exact ⟨w5.1.1, w5.1.2, ⟨by omega, by omega⟩⟩) (m _ ⟨fun z => absurd z (by omega), fun z => absurd z (by omega), fun z => absurd z (by omega), fun z => absurd z (by omega), fun _ => rfl, fun z => absurd z (by omega), fun z => absurd z (by omega), fun z => absurd z (by omega), fun z => absurd z (by omega), fun z => absurd z (by omega), fun z => absurd z (by omega), fun z => absurd z (by omega), fun z => absurd z (by omega), fun z => absurd z (by omega)⟩ (big _ (by omega)).2 (big _ (by omega)).1) (σ 11 0 6).toNat 0 41 (by omega) (by omega)⟩
  · exact m _ ⟨fun z => absurd z (by omega), fun z => absurd z (by omega), fun z => absurd z (by omega), fun z => absurd z (by omega), fun z => absurd z (by omega), fun _ => rfl, fun z => absurd z (by omega), fun z => absurd z (by omega), fun z => absurd z (by omega), fun z => absurd z (by omega), fun z => absurd z (by omega), fun z => absurd z (by omega), fun z => absurd z (by omega), fun z => absurd z (by omega)⟩ (big _ (by omega)).2 (big _ (by omega)).1
  · exact m _ ⟨fun z => absurd z (by omega), fun z => absurd z (by omega), fun z => absurd z (by omega), fun z => absurd z (by omega), fun z => absurd z (by omega), fun z => absurd z (by omega), fun _ => rfl, fun z => absurd z (by omega), fun z => absurd z (by omega), fun z => absurd z (by omega), fun z => absurd z (by omega), fun z => absurd z (by omega), fun z => absurd z (by omega), fun z => absurd z (by omega)⟩ (big _ (by omega)).2 (big _ (by omega)).1
  · exact m _ ⟨fun z => absurd z (by omega), fun z => absurd z (by omega), fun z => absurd z (by omega), fun z => absurd z (by omega), fun z => absurd z (by omega), fun z => absurd z (by omega), fun z => absurd z (by omega), fun _ => rfl, fun z => absurd z (by omega), fun z => absurd z (by omega), fun z => absurd z (by omega), fun z => absurd z (by omega), fun z => absurd z (by omega), fun z => absurd z (by omega)⟩ (big _ (by omega)).2 (big _ (by omega)).1
  · exact m _ ⟨fun z => absurd z (by omega), fun z => absurd z (by omega), fun z => absurd z (by omega), fun z => absurd z (by omega), fun z => absurd z (by omega), fun z => absurd z (by omega), fun z => absurd z (by omega), fun z => absurd z (by omega), fun _ => rfl, fun z => absurd z (by omega), fun z => absurd z (by omega), fun z => absurd z (by omega), fun z => absurd z (by omega), fun z => absurd z (by omega)⟩ (big _ (by omega)).2 (big _ (by omega)).1
  · exact m _ ⟨fun z => absurd z (by omega), fun z => absurd z (by omega), fun z => absurd z (by omega), fun z => absurd z (by omega), fun z => absurd z (by omega), fun z => absurd z (by omega), fun z => absurd z (by omega), fun z => absurd z (by omega), fun z => absurd z (by omega), fun _ => rfl, fun z => absurd z (by omega), fun z => absurd z (by omega), fun z => absurd z (by omega), fun z => absurd z (by omega)⟩ (big _ (by omega)).2 (big _ (by omega)).1
  · exact m _ ⟨fun z => absurd z (by omega), fun z => absurd z (by omega), fun z => absurd z (by omega), fun z => absurd z (by omega), fun z => absurd z (by omega), fun z => absurd z (by omega), fun z => absurd z (by omega), fun z => absurd z (by omega), fun z => absurd z (by omega), fun z => absurd z (by omega), fun _ => rfl, fun z => absurd z (by omega), fun z => absurd z (by omega), fun z => absurd z (by omega)⟩ (big _ (by omega)).2 (big _ (by omega)).1
  · exact m _ ⟨fun z => absurd z (by omega), fun z => absurd z (by omega), fun z => absurd z (by omega), fun z => absurd z (by omega), fun z => absurd z (by omega), fun z => absurd z (by omega), fun z => absurd z (by omega), fun z => absurd z (by omega), fun z => absurd z (by omega), fun z => absurd z (by omega), fun z => absurd z (by omega), fun _ => rfl, fun z => absurd z (by omega), fun z => absurd z (by omega)⟩ (big _ (by omega)).2 (big _ (by omega)).1
  · exact ⟨21, wage_loop c3 (fun i hi => (c4 i hi).1) (m _ ⟨fun z => absurd z (by omega), fun z => absurd z (by omega), fun z => absurd z (by omega), fun z => absurd z (by omega), fun z => absurd z (by omega), fun z => absurd z (by omega), fun z => absurd z (by omega), fun z => absurd z (by omega), fun z => absurd z (by omega), fun z => absurd z (by omega), fun z => absurd z (by omega), fun z => absurd z (by omega), fun _ => rfl, fun z => absurd z (by omega)⟩ (big _ (by omega)).2 (big _ (by omega)).1) (σ 11 0 11).toNat 0 21 (by omega) (by omega)⟩
  · exact ⟨65, all_loop (m _ ⟨fun z => absurd z (by omega), fun z => absurd z (by omega), fun z => absurd z (by omega), fun z => absurd z (by omega), fun z => absurd z (by omega), fun z => absurd z (by omega), fun z => absurd z (by omega), fun z => absurd z (by omega), fun z => absurd z (by omega), fun z => absurd z (by omega), fun z => absurd z (by omega), fun z => absurd z (by omega), fun z => absurd z (by omega), fun _ => rfl⟩ (big _ (by omega)).2 (big _ (by omega)).1) 64 0 65 (by omega) (by omega)⟩
  · refine wi_x h1 ⟨by decide, by decide⟩ ⟨by decide, by decide⟩ (fun a2 b2 => ⟨in1, fun c => absurd c (by decide), fun _ => ?_⟩) (fun a2 => ⟨in0, fun _ => ?_, fun c => absurd rfl c⟩)
    · exact ⟨301, became_loop ⟨by omega, by omega⟩ v2.2 (fun i hi => ⟨(v3 i hi).1, (v3 i hi).2, by have := sb i hi; exact ⟨by omega, by omega⟩⟩) (m _ ⟨fun z => absurd z (by omega), fun z => absurd z (by omega), fun z => absurd z (by omega), fun z => absurd z (by omega), fun z => absurd z (by omega), fun z => absurd z (by omega), fun z => absurd z (by omega), fun z => absurd z (by omega), fun z => absurd z (by omega), fun z => absurd z (by omega), fun z => absurd z (by omega), fun z => absurd z (by omega), fun z => absurd z (by omega), fun z => absurd z (by omega)⟩ (fun z => absurd ⟨a2, b2⟩ z) (fun _ _ => rfl)) (σ 11 0 4).toNat 0 301 (by omega) (by omega)⟩
    · exact m _ ⟨fun z => absurd z (by omega), fun z => absurd z (by omega), fun z => absurd z (by omega), fun z => absurd z (by omega), fun z => absurd z (by omega), fun z => absurd z (by omega), fun z => absurd z (by omega), fun z => absurd z (by omega), fun z => absurd z (by omega), fun z => absurd z (by omega), fun z => absurd z (by omega), fun z => absurd z (by omega), fun z => absurd z (by omega), fun z => absurd z (by omega)⟩ (fun _ _ => rfl) (fun z1 z2 => absurd ⟨z1, z2⟩ a2)
