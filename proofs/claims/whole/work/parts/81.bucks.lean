/-! buck and piece -/
theorem Inv_bb {n : Nat} {σ : St} {a b : Int} {F G f H g : Nat → Int} (hI : Inv n σ) : Inv (n + 1) (st (sta (sta (st (st (sta (sta (sta σ 21 0 F) 22 0 G) 23 0 f) 0 0 4 a) 12 0 0 0) 94 0 H) 93 0 g) 12 0 15 b) := by
  obtain ⟨a_sky, a_land, a_price, a_ints, a_logA, a_logB, a_live, a_lying, a_ways, a_crews, a_dbl, a_tape, a_law, a_ord, a_spur, a_cuts, a_cru, a_kf, a_tn⟩ := hI
  unfold Inv
  simp (decide := true) only [rs_ne, rs_fn, upj_eq, upj_ne, up_eq, up_ne, ra_ne, ra_fn, upr_eq, upr_ne, not_false_eq_true, ne_eq]
  refine ⟨?_, ?_, ?_, ?_, ?_, ?_, ?_, ?_, ?_, ?_, ?_, ?_, ?_, ?_, ?_, ?_, ?_, ?_, ?_⟩
  · exact a_sky
  · exact a_land
  · exact a_price
  · exact I_ints_up a_ints
  · exact a_logA
  · exact a_logB
  · exact a_live
  · exact a_lying
  · exact a_ways
  · exact a_crews
  · exact a_dbl
  · exact a_tape
  · exact a_law
  · exact a_ord
  · exact a_spur
  · exact a_cuts
  · exact a_cru
  · exact a_kf
  · exact a_tn
theorem op_buck {n : Nat} {σ : St} {x1 x2 : Int} (hI : Inv n σ) (h1 : inR x1) (h2 : inR x2) : wp_X11_buck σ x1 x2 (fun r σ1 => wp_X12_buck σ1 x1 x2 (fun r2 σ2 => r2 = r ∧ Inv (n + 1) σ2)) := by
  have hI0 := hI
  obtain ⟨a_sky, a_land, a_price, a_ints, a_logA, a_logB, a_live, a_lying, a_ways, a_crews, a_dbl, a_tape, a_law, a_ord, a_spur, a_cuts, a_cru, a_kf, a_tn⟩ := hI
  obtain ⟨⟨l1, l2, l3, l4, l5, l6⟩, lm, lh, ls, lt, lg, lp⟩ := id a_land
  obtain ⟨p1, p2⟩ := id a_price
  have hno : ¬ (0 ≤ x1 ∧ x1 ≤ 3 ∧ 0 ≤ x2 ∧ x2 ≤ 3) → wp_X12_buck σ x1 x2 (fun r2 σ2 => r2 = -1 ∧ Inv (n + 1) σ2) := by
    intro hc τ eτ
    have hi : Inv (n + 1) τ := by rw [eτ]; exact Inv_t hI0
    unfold wp_X12_isStem
    refine wi_m h1 in0 ⟨by decide, by decide⟩ (fun a b => ⟨in1, fun c => absurd c (by decide), fun _ => ?_⟩) (fun a => ⟨in0, fun _ => ⟨in0, fun _ => ⟨rfl, hi⟩, fun c => absurd rfl c⟩, fun c => absurd rfl c⟩)
    exact wi_m h2 in0 ⟨by decide, by decide⟩ (fun a2 b2 => absurd ⟨a, b, a2, b2⟩ hc) (fun a2 => ⟨in0, fun _ => ⟨in0, fun _ => ⟨rfl, hi⟩, fun c => absurd rfl c⟩, fun c => absurd rfl c⟩)
  unfold wp_X11_buck wp_X11_isStem
  refine wi_x h1 in0 ⟨by decide, by decide⟩ (fun a b => ⟨in1, fun c => absurd c (by decide), fun _ => ?_⟩) (fun a => ⟨in0, fun _ => ⟨in0, fun _ => hno (by omega), fun c => absurd rfl c⟩, fun c => absurd rfl c⟩)
  refine wi_x h2 in0 ⟨by decide, by decide⟩ (fun a2 b2 => ⟨in1, fun c => absurd c (by decide), fun _ => ⟨in1, fun c => absurd c (by decide), fun _ => ?_⟩⟩) (fun a2 => ⟨in0, fun _ => ⟨in0, fun _ => hno (by omega), fun c => absurd rfl c⟩, fun c => absurd rfl c⟩)
  refine sx_chooseBest (all := (4 + 2 * x2).toNat) ⟨a, b⟩ ⟨a2, b2⟩ lp p2 (by omega) (fun F G f m hB hP => ?_)
  intro τ eτ
  have t87 : τ 87 0 = σ 33 0 := by rw [eτ, rs_ne (by decide), rs_ne (by decide), ra_ne (by decide), ra_ne (by decide), ra_ne (by decide), l5]
  have t92 : τ 92 0 = σ 20 0 := by rw [eτ, rs_ne (by decide), rs_ne (by decide), ra_ne (by decide), ra_ne (by decide), ra_ne (by decide), p1]
  unfold wp_X12_isStem
  refine wi_m h1 in0 ⟨by decide, by decide⟩ (fun _ _ => ⟨in1, fun c => absurd c (by decide), fun _ => ?_⟩) (fun z => absurd ⟨a, b⟩ z)
  refine wi_m h2 in0 ⟨by decide, by decide⟩ (fun _ _ => ⟨in1, fun c => absurd c (by decide), fun _ => ⟨in1, fun c => absurd c (by decide), fun _ => ?_⟩⟩) (fun z => absurd ⟨a2, b2⟩ z)
  refine sm_bucks (all := (4 + 2 * x2).toNat) ⟨a, b⟩ ⟨a2, b2⟩ (by rw [t87]; exact lp) (by rw [t92]; exact p2) (by omega) (fun F' G' f' m' hB' hP' => ?_)
  rw [t87, t92] at hB'
  obtain ⟨e1, e2, e3⟩ := bk_eq hB hB' hP hP'
  exact ⟨e1, by rw [eτ]; exact Inv_bb hI0⟩
theorem op_piece {n : Nat} {σ : St} {x1 x2 x3 : Int} (hI : Inv n σ) (h1 : inR x1) (h2 : inR x2) (h3 : inR x3) : wp_X11_piece σ x1 x2 x3 (fun r σ1 => wp_X12_piece σ1 x1 x2 x3 (fun r2 σ2 => r2 = r ∧ Inv (n + 1) σ2)) := by
  have hI0 := hI
  obtain ⟨a_sky, a_land, a_price, a_ints, a_logA, a_logB, a_live, a_lying, a_ways, a_crews, a_dbl, a_tape, a_law, a_ord, a_spur, a_cuts, a_cru, a_kf, a_tn⟩ := hI
  obtain ⟨⟨l1, l2, l3, l4, l5, l6⟩, lm, lh, ls, lt, lg, lp⟩ := id a_land
  obtain ⟨p1, p2⟩ := id a_price
  have hno : ¬ (0 ≤ x1 ∧ x1 ≤ 3 ∧ 0 ≤ x2 ∧ x2 ≤ 3) → wp_X12_piece σ x1 x2 x3 (fun r2 σ2 => r2 = -1 ∧ Inv (n + 1) σ2) := by
    intro hc τ eτ
    have hi : Inv (n + 1) τ := by rw [eτ]; exact Inv_t hI0
    unfold wp_X12_isStem
    refine wi_m h1 in0 ⟨by decide, by decide⟩ (fun a b => ⟨in1, fun c => absurd c (by decide), fun _ => ?_⟩) (fun a => ⟨in0, fun _ => ⟨in0, fun c => absurd rfl c, fun _ => ⟨rfl, hi⟩⟩, fun c => absurd rfl c⟩)
    exact wi_m h2 in0 ⟨by decide, by decide⟩ (fun a2 b2 => absurd ⟨a, b, a2, b2⟩ hc) (fun a2 => ⟨in0, fun _ => ⟨in0, fun c => absurd rfl c, fun _ => ⟨rfl, hi⟩⟩, fun c => absurd rfl c⟩)
  unfold wp_X11_piece wp_X11_isStem
  refine wi_x h1 in0 ⟨by decide, by decide⟩ (fun a b => ⟨in1, fun c => absurd c (by decide), fun _ => ?_⟩) (fun a => ⟨in0, fun _ => ⟨in0, fun c => absurd rfl c, fun _ => hno (by omega)⟩, fun c => absurd rfl c⟩)
  refine wi_x h2 in0 ⟨by decide, by decide⟩ (fun a2 b2 => ⟨in1, fun c => absurd c (by decide), fun _ => ⟨in1, fun _ => ?_, fun c => absurd c (by decide)⟩⟩) (fun a2 => ⟨in0, fun _ => ⟨in0, fun c => absurd rfl c, fun _ => hno (by omega)⟩, fun c => absurd rfl c⟩)
  refine sx_chooseBest (all := (4 + 2 * x2).toNat) ⟨a, b⟩ ⟨a2, b2⟩ lp p2 (by omega) (fun F G f m hB hP => ?_)
  have m5 := hP.1
  obtain ⟨s0, e0⟩ : ∃ s0 : St, s0 = st (sta (sta (sta σ 21 0 F) 22 0 G) 23 0 f) 0 0 4 m := ⟨_, rfl⟩
  rw [← e0]
  have r4 : s0 0 0 4 = (m : Int) := by rw [e0, rs_eq, up_eq]
  have r23 : s0 23 0 = f := by rw [e0, rs_ne (by decide), ra_eq]
  have mm : ∀ v : Int, (0 ≤ x3 → x3 < m → v = f x3.toNat) → (¬ (0 ≤ x3 ∧ x3 < m) → v = -1) → wp_X12_piece s0 x1 x2 x3 (fun r2 σ2 => r2 = v ∧ Inv (n + 1) σ2) := by
    intro v v1 v0 τ eτ
    have t87 : τ 87 0 = σ 33 0 := by rw [eτ, e0, rs_ne (by decide), rs_ne (by decide), ra_ne (by decide), ra_ne (by decide), ra_ne (by decide), l5]
    have t92 : τ 92 0 = σ 20 0 := by rw [eτ, e0, rs_ne (by decide), rs_ne (by decide), ra_ne (by decide), ra_ne (by decide), ra_ne (by decide), p1]
    unfold wp_X12_isStem
    refine wi_m h1 in0 ⟨by decide, by decide⟩ (fun _ _ => ⟨in1, fun c => absurd c (by decide), fun _ => ?_⟩) (fun z => absurd ⟨a, b⟩ z)
    refine wi_m h2 in0 ⟨by decide, by decide⟩ (fun _ _ => ⟨in1, fun c => absurd c (by decide), fun _ => ⟨in1, fun _ => ?_, fun c => absurd c (by decide)⟩⟩) (fun z => absurd ⟨a2, b2⟩ z)
    refine sm_bucks (all := (4 + 2 * x2).toNat) ⟨a, b⟩ ⟨a2, b2⟩ (by rw [t87]; exact lp) (by rw [t92]; exact p2) (by omega) (fun F' G' f' m' hB' hP' => ?_)
    rw [t87, t92] at hB'
    obtain ⟨e1, e2, e3⟩ := bk_eq hB hB' hP hP'
    have hi : Inv (n + 1) (st (sta (sta τ 94 0 F') 93 0 f') 12 0 15 m') := by rw [eτ, e0]; exact Inv_bb hI0
    obtain ⟨s1, es⟩ : ∃ s1 : St, s1 = st (sta (sta τ 94 0 F') 93 0 f') 12 0 15 m' := ⟨_, rfl⟩
    rw [← es] at hi ⊢
    have u15 : s1 12 0 15 = (m' : Int) := by rw [es, rs_eq, up_eq]
    have u93 : s1 93 0 = f' := by rw [es, rs_ne (by decide), ra_eq]
    rw [u15]
    refine wi_m h3 in0 ⟨by omega, by omega⟩ (fun a3 b3 => ⟨in1, fun c => absurd c (by decide), fun _ => ⟨by omega, by omega, ?_, hi⟩⟩) (fun a3 => ⟨in0, fun _ => ⟨(v0 (by omega)).symm, hi⟩, fun c => absurd rfl c⟩)
    rw [u93, v1 a3 (by omega)]
    exact e3 _ (by omega)
  rw [r4]
  refine wi_x h3 in0 ⟨by omega, by omega⟩ (fun a3 b3 => ⟨in1, fun c => absurd c (by decide), fun _ => ⟨by omega, by omega, ?_⟩⟩) (fun a3 => ⟨in0, fun _ => mm (-1) (fun z1 z2 => absurd ⟨z1, by omega⟩ a3) (fun _ => rfl), fun c => absurd rfl c⟩)
  rw [r23]
  exact mm _ (fun _ _ => rfl) (fun z => absurd ⟨a3, by omega⟩ z)
