/-! hand: a division, a double's difference -/
def fdq (x y : Int) : Int := if 0 ≤ i_ixor x y then Int.tdiv x y else if Int.tdiv x y * y = x then Int.tdiv x y else Int.tdiv x y - 1
theorem j_floorDiv {σ : St} {x y : Int} {Q : Int → St → Prop} (hx : -10000000 ≤ x ∧ x ≤ 10000000) (hy : 1 ≤ y ∧ y ≤ 1000) (q : Q (fdq x y) σ) : wp_J9_floorDiv_7cf53 σ x y Q := by
  have hR : inR x := ⟨by omega, by omega⟩
  have hM : inR y := ⟨by omega, by omega⟩
  have d := Int.tmod_def x y
  have l1 := Int.tmod_lt_of_pos x (show 0 < y by omega)
  have l2 := Int.tmod_lt_of_pos (-x) (show 0 < y by omega)
  rw [Int.neg_tmod] at l2
  rw [Int.mul_comm] at d
  obtain ⟨p, ep⟩ : ∃ p, p = x.tdiv y * y := ⟨_, rfl⟩
  rw [← ep] at d
  unfold fdq at q
  refine ⟨hR, hM, by omega, by omega, fun v e => ⟨inR_of _, fun z => ?_, fun z => ?_⟩⟩
  · rw [if_pos z] at q
    rw [e]
    exact q
  · rw [if_neg z] at q
    rw [e, ← ep]
    rw [← ep] at q
    refine ⟨⟨by omega, by omega⟩, hR, fun u => ?_, fun u => ?_⟩
    · rw [if_pos u] at q
      exact q
    · rw [if_neg u] at q
      exact q
theorem sx_doubleDifference {n i : Nat} {σ : St} {Q : Int → St → Prop} (hI : Inv n σ) (hi : (i : Int) < σ 11 0 16) (q : Q (σ 82 0 i - scv (σ 98 0 (σ 81 0 i).toNat) (σ 97 0 (σ 81 0 i).toNat) (σ 11 0 12)) σ) : wp_X11_doubleDifference σ i Q := by
  obtain ⟨a_sky, a_land, a_price, a_ints, a_logA, a_logB, a_live, a_lying, a_ways, a_crews, a_dbl, a_tape, a_law, a_ord, a_spur, a_cuts, a_cru, a_kf, a_tn⟩ := hI
  obtain ⟨⟨d1, d2, d3⟩, -, -, d6, -⟩ := id a_dbl
  obtain ⟨v1, v2, v3, -⟩ := id a_live
  have r := a_ints.2.2.2
  have hl := d6 i hi
  unfold wp_X11_doubleDifference
  rw [Int.toNat_natCast]
  refine ⟨by omega, by omega, logAt_x a_live ⟨by omega, by omega⟩ (fun u1 u2 => ?_) (fun u => absurd hl u)⟩
  obtain ⟨⟨f0, f1, f2, -⟩, -, -, fb⟩ := a_logA (σ 81 0 i).toNat (by omega)
  have l4 := v3 (σ 81 0 i).toNat (by omega)
  refine ⟨by omega, by omega, l4.2, ?_⟩
  refine sx_scaleBy ?_ ?_ ?_ ?_ ?_ ?_ ?_
  all_goals first | exact ⟨by omega, by omega⟩ | omega | exact l4.2 | (rw [f1, f2]; exact q)
