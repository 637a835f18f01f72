/-! each, of the reference: the answer, or a throw (12 0 0 is 1) -/
theorem nr_102 {σ : St} {s m : Int} : nr σ s m 12 0 102 = m := by
  unfold nr
  first | rw [rs_eq, up_eq] | rw [rs_eq, up_ne (by decide), rs_eq, up_eq]
theorem sm_each {n : Nat} {σ : St} {x1 x2 : Int} {Q : Int → St → Prop} (hI : Inv n σ) (h1 : inR x1) (h2 : inR x2) (q1 : 0 ≤ x1 → x1 ≤ 3 → 0 ≤ x2 → x2 < σ 24 0 x1.toNat → ¬ un (fun q => σ 27 0 (40 * x1.toNat + q)) 0 (σ 24 0 x1.toNat).toNat = -1 → ∀ s m, Q (egv (fun q => σ 26 0 (40 * x1.toNat + q)) (fun q => σ 27 0 (40 * x1.toNat + q)) x2.toNat (σ 24 0 x1.toNat).toNat) (st (nr σ s m) 12 0 0 0)) (q0 : 0 ≤ x1 → x1 ≤ 3 → 0 ≤ x2 → x2 < σ 24 0 x1.toNat → un (fun q => σ 27 0 (40 * x1.toNat + q)) 0 (σ 24 0 x1.toNat).toNat = -1 → ∀ s m, Q 0 (st (nr σ s m) 12 0 0 1)) (qn : ¬ (0 ≤ x1 ∧ x1 ≤ 3 ∧ 0 ≤ x2 ∧ x2 < σ 24 0 x1.toNat) → Q 0 (st σ 12 0 0 1)) : wp_X12_each σ x1 x2 Q := by
  obtain ⟨a_sky, a_land, a_price, a_ints, a_logA, a_logB, a_live, a_lying, a_ways, a_crews, a_dbl, a_tape, a_law, a_ord, a_spur, a_cuts, a_cru, a_kf, a_tn⟩ := hI
  obtain ⟨⟨t1, t2, t3, t4⟩, c1, c2, c3, c4⟩ := id a_cru
  have thr : ∀ (S : St) (y : Int), Q 0 (st S 12 0 0 1) → wp_X12_each_38 Q S y := by
    intro S y h
    unfold wp_X12_each_38 wp_X12_each_39 wp_X12_each_50
    refine ⟨in0, fun _ s1 es => ⟨in0, fun _ => ?_, fun z => absurd rfl z⟩, fun z => absurd rfl z⟩
    rw [es]
    exact h
  have no : ¬ (0 ≤ x1 ∧ x1 ≤ 3 ∧ 0 ≤ x2 ∧ x2 < σ 24 0 x1.toNat) → wp_X12_each_21 Q σ 0 0 := by
    intro h
    exact ⟨in0, fun _ => thr σ 0 (qn h), fun z => absurd rfl z⟩
  unfold wp_X12_each wp_X12_isPlace
  refine wi_m h1 in0 ⟨by decide, by decide⟩ (fun a b => ⟨in1, fun z => absurd z (by decide), fun _ => ?_⟩) (fun a => ⟨in0, fun _ => ⟨in0, fun _ => no (by omega), fun z => absurd rfl z⟩, fun z => absurd rfl z⟩)
  have cl := c1 x1.toNat (by omega)
  rw [t1]
  refine ⟨a, by omega, ⟨by omega, by omega⟩, fun z => ⟨in0, fun _ => no (by omega), fun z => absurd rfl z⟩, fun z => ⟨a, by omega, wi_m h2 in0 ⟨by omega, by omega⟩ (fun a2 b2 => ⟨in1, fun z => absurd z (by decide), fun _ => ⟨in1, fun z => absurd z (by decide), fun _ => ?_⟩⟩) (fun a2 => ⟨in0, fun _ => ⟨in0, fun _ => no (by omega), fun z => absurd rfl z⟩, fun z => absurd rfl z⟩)⟩⟩
  obtain ⟨r, rfl⟩ : ∃ r : Nat, x1 = r := ⟨x1.toNat, by omega⟩
  obtain ⟨p, rfl⟩ : ∃ p : Nat, x2 = p := ⟨x2.toNat, by omega⟩
  rw [Int.toNat_natCast] at q1 q0 b2 cl
  rw [Int.toNat_natCast] at q1
  refine sm_told (by omega) (by rw [t1]; exact cl) (by rw [t1]; omega) (by rw [t4]; exact c4) (by rw [t3]; exact c3) (fun s m m0 m2 hm => ?_)
  rw [t1, t3, t4]
  rw [t1, t4] at hm
  unfold wp_X12_each_21
  rw [nr_102]
  refine ⟨in1, fun z => absurd z (by decide), fun _ => ⟨⟨by omega, by omega⟩, fun y => thr _ _ (q0 a b a2 (by omega) (hm.1 (by omega)) s m), fun y => ?_⟩⟩
  unfold wp_X12_each_39 wp_X12_each_50
  refine ⟨in1, fun z => absurd z (by decide), fun _ s1 es => ⟨in1, fun z => absurd z (by decide), fun _ => ?_⟩⟩
  rw [es]
  exact q1 a b a2 (by omega) (fun u => absurd (hm.2 u) (by omega)) s m
