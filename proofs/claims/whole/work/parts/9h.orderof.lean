/-! orderOf, of the reference: the answer, or a throw (12 0 0 is 1) -/
theorem sm_orderOf {n : Nat} {σ : St} {x1 x2 : Int} {Q : Int → St → Prop} (hI : Inv n σ) (h1 : inR x1) (h2 : inR x2) (q1 : 0 ≤ x1 → x1 < σ 6 0 6 → 0 ≤ x2 → x2 ≤ 2 → ¬ (x2 = 2 ∧ σ 60 0 x1.toNat = -1) → Q (if x2 = 0 then σ 57 0 x1.toNat else if x2 = 1 then σ 60 0 x1.toNat else σ 59 0 x1.toNat - σ 60 0 x1.toNat) (st σ 12 0 0 0)) (q0 : ¬ (0 ≤ x1 ∧ x1 < σ 6 0 6 ∧ 0 ≤ x2 ∧ x2 ≤ 2 ∧ ¬ (x2 = 2 ∧ σ 60 0 x1.toNat = -1)) → Q 0 (st σ 12 0 0 1)) : wp_X12_orderOf σ x1 x2 Q := by
  obtain ⟨a_sky, a_land, a_price, a_ints, a_logA, a_logB, a_live, a_lying, a_ways, a_crews, a_dbl, a_tape, a_law, a_ord, a_spur, a_cuts, a_cru, a_kf, a_tn⟩ := hI
  obtain ⟨o1, ⟨t1, t2, t3, t4, t5, t6⟩, o3⟩ := id a_ord
  have no : ¬ (0 ≤ x1 ∧ x1 < σ 6 0 6 ∧ 0 ≤ x2 ∧ x2 ≤ 2 ∧ ¬ (x2 = 2 ∧ σ 60 0 x1.toNat = -1)) → wp_X12_orderOf_42 Q σ x1 x2 := by
    intro h
    unfold wp_X12_orderOf_42 wp_X12_orderOf_43 wp_X12_orderOf_54
    refine ⟨in0, fun _ s1 es => ⟨in0, fun z => absurd rfl z, fun _ => ?_⟩, fun z => absurd rfl z⟩
    rw [es]
    exact q0 h
  have yes : 0 ≤ x1 → x1 < σ 6 0 6 → 0 ≤ x2 → x2 ≤ 2 → ¬ (x2 = 2 ∧ σ 60 0 x1.toNat = -1) → wp_X12_orderOf_38 Q σ x1 x2 := by
    intro a b a2 b2 hn
    have q := q1 a b a2 b2 hn
    unfold wp_X12_orderOf_38 wp_X12_orderOf_43 wp_X12_orderOf_54
    refine ⟨in1, fun z => absurd z (by decide), fun _ s1 es => ?_⟩
    have r : ∀ k, ¬ k = 12 → s1 k = σ k := fun k z => by rw [es, rs_ne z]
    rw [r 137 (by decide), r 138 (by decide), r 135 (by decide), t3, t5, t6, es]
    refine ⟨in1, fun _ => ⟨h2, fun y => ⟨h2, fun y2 => ⟨by omega, by omega, by omega, by omega, ?_⟩, fun y2 => ⟨by omega, by omega, ?_⟩⟩, fun y => ⟨by omega, by omega, ?_⟩⟩, fun z => absurd z (by decide)⟩
    · rw [if_neg y, if_neg y2] at q
      exact q
    · rw [if_neg y, if_pos y2] at q
      exact q
    · rw [if_pos y] at q
      exact q
  unfold wp_X12_orderOf
  refine wi_m h1 in0 ⟨by omega, by omega⟩ (fun a b => ⟨in1, fun z => absurd z (by decide), fun _ => ?_⟩) (fun a => ⟨in0, fun _ => no (by omega), fun z => absurd rfl z⟩)
  have ob := o3 x1.toNat (by omega)
  refine wi_m h2 in0 ⟨by decide, by decide⟩ (fun a2 b2 => ⟨in1, fun z => absurd z (by decide), fun _ => ⟨h2, fun y => yes a (by omega) a2 b2 (by omega), fun y => ⟨a, by omega, ?_, fun z => ?_, fun z => ?_⟩⟩⟩) (fun a2 => ⟨in0, fun _ => no (by omega), fun z => absurd rfl z⟩)
  · rw [t6]
    exact ⟨by omega, by omega⟩
  · rw [t6] at z
    exact no (fun u => u.2.2.2.2 ⟨by omega, z⟩)
  · rw [t6] at z
    exact yes a (by omega) a2 b2 (fun u => z u.2)
