/-! hand, of the reference: the answer, or a throw (12 0 0 is 1) -/
def hnD (σ : St) : Nat → Int := fun i => σ 82 0 i - scv (σ 98 0 (σ 81 0 i).toNat) (σ 97 0 (σ 81 0 i).toNat) (σ 11 0 12)
def hnR (σ : St) (x : Int) : Hn := hnv x (σ 80 0) (hnD σ) (σ 11 0 16).toNat
theorem hnD_b {n : Nat} {σ : St} (hI : Inv n σ) : ∀ i, i < (σ 11 0 16).toNat → -100000 ≤ hnD σ i ∧ hnD σ i ≤ 100000 := by
  obtain ⟨a_sky, a_land, a_price, a_ints, a_logA, a_logB, a_live, a_lying, a_ways, a_crews, a_dbl, a_tape, a_law, a_ord, a_spur, a_cuts, a_cru, a_kf, a_tn⟩ := hI
  obtain ⟨⟨d1, d2, d3⟩, -, -, d6, d7⟩ := id a_dbl
  intro i hi
  have hl := d6 i (by omega)
  have hc := d7 i
  obtain ⟨-, -, -, fb⟩ := a_logA (σ 81 0 i).toNat (by omega)
  have sb := scv_b (w := σ 98 0 (σ 81 0 i).toNat) (u := σ 97 0 (σ 81 0 i).toNat) (r := σ 11 0 12) (by omega) (by omega) (by omega) (by omega)
  unfold hnD
  omega
theorem sm_hand {n : Nat} {σ : St} {x1 x2 : Int} {Q : Int → St → Prop} (hI : Inv n σ) (h1 : inR x1) (h2 : inR x2) (q1 : 0 < (hnR σ x1).1 → 0 ≤ x2 → x2 ≤ 1 → Q (if x2 = 0 then fdq (hnR σ x1).2.1 (hnR σ x1).1 else (hnR σ x1).2.2.2 - (hnR σ x1).2.2.1) (st σ 12 0 0 0)) (q0 : ¬ (0 < (hnR σ x1).1 ∧ 0 ≤ x2 ∧ x2 ≤ 1) → Q 0 (st σ 12 0 0 1)) : wp_X12_hand σ x1 x2 Q := by
  have hI0 := hI
  have hD := hnD_b hI0
  obtain ⟨a_sky, a_land, a_price, a_ints, a_logA, a_logB, a_live, a_lying, a_ways, a_crews, a_dbl, a_tape, a_law, a_ord, a_spur, a_cuts, a_cru, a_kf, a_tn⟩ := hI
  obtain ⟨⟨d1, d2, d3⟩, ⟨t1, t2, t3⟩, d5, d6, d7⟩ := id a_dbl
  obtain ⟨v1, v2, v3, -⟩ := id a_live
  obtain ⟨⟨i1, i2, i3⟩, -, -, ir⟩ := id a_ints
  have b := hnv_b (x := x1) (so := σ 80 0) hD (σ 11 0 16).toNat (Nat.le_refl _)
  have e := hn_loop (σ := σ) (x1 := x1) (x2 := x2) (D := hnD σ) (K := wp_X12_hand_118 Q) (Q := Q) h1 (by omega) (fun i hi => by rw [t1]; have := d5 i; exact ⟨by omega, by omega⟩) (by rw [d1]; exact hD) (fun i Q hi hq => ?_) ?_ (σ 12 0 67).toNat 0 61 (by omega) (by omega)
  · exact ⟨61, e⟩
  · have hl := d6 i (by omega)
    obtain ⟨-, -, -, fb⟩ := a_logA (σ 81 0 i).toNat (by omega)
    rw [t2, i2]
    refine sm_scaleOf ⟨by omega, by omega⟩ hl.1 (by omega) (by omega) (by omega) (by omega) (by omega) ?_
    unfold hnD at hq
    rw [t3] at hq
    rw [show σ 82 0 i - (σ 82 0 i - scv (σ 98 0 (σ 81 0 i).toNat) (σ 97 0 (σ 81 0 i).toNat) (σ 11 0 12)) = scv (σ 98 0 (σ 81 0 i).toNat) (σ 97 0 (σ 81 0 i).toNat) (σ 11 0 12) by omega] at hq
    exact hq
  · rw [t1, d1]
    unfold hnR at q1 q0
    obtain ⟨r, er⟩ : ∃ r, r = hnv x1 (σ 80 0) (hnD σ) (σ 11 0 16).toNat := ⟨_, rfl⟩
    rw [← er] at q1 q0 b ⊢
    obtain ⟨c, s, mn, mx⟩ := r
    dsimp only at q1 q0 b ⊢
    have no : ¬ (0 < c ∧ 0 ≤ x2 ∧ x2 ≤ 1) → wp_X12_hand_135 Q σ x2 c s mn mx := by
      intro h
      unfold wp_X12_hand_135 wp_X12_hand_136 wp_X12_hand_149
      refine ⟨in0, fun _ s1 es => ⟨in0, fun z => absurd rfl z, fun _ => ?_⟩, fun z => absurd rfl z⟩
      rw [es]
      exact q0 h
    unfold wp_X12_hand_118
    refine ⟨⟨by omega, by omega⟩, fun z => no (by omega), fun z => wi_m h2 in0 in1 (fun a a2 => ⟨in1, fun u => absurd u (by decide), fun _ => ?_⟩) (fun a => ⟨in0, fun _ => no (by omega), fun u => absurd rfl u⟩)⟩
    have q := q1 (by omega) a a2
    unfold wp_X12_hand_136 wp_X12_hand_149
    refine ⟨in1, fun u => absurd u (by decide), fun _ s1 es => ⟨in1, fun _ => ⟨h2, fun y => ?_, fun y => ?_⟩, fun u => absurd u (by decide)⟩⟩
    · rw [if_neg y] at q
      rw [es]
      exact q
    · rw [if_pos y] at q
      rw [es]
      exact j_floorDiv (by omega) (by omega) q
