/-! calls whose pictures are plain: class and reference side by side -/
theorem I_ints_up {n : Nat} {a b c d e f : Int} (h : I_ints n a b c d e f) : I_ints (n + 1) a b c d e f := by
  obtain ⟨h1, h2, h3, h4, h5⟩ := h
  exact ⟨h1, h2, by omega, h4, h5⟩
theorem up_all {P : Int → Prop} {f : Nat → Int} {i : Nat} {v : Int} (h : ∀ j, P (f j)) (hv : P v) : ∀ j, P (up f i v j) := by
  intro j
  unfold up
  split
  · exact hv
  · exact h j
theorem Inv_t {n : Nat} {σ : St} {v : Int} (hI : Inv n σ) : Inv (n + 1) (st σ 12 0 0 v) := by
  obtain ⟨a_sky, a_land, a_price, a_ints, a_logA, a_logB, a_live, a_lying, a_ways, a_crews, a_dbl, a_tape, a_law, a_ord, a_spur, a_cuts, a_cru, a_kf, a_tn⟩ := hI
  unfold Inv
  simp (decide := true) only [rs_ne, rs_fn, upj_eq, upj_ne, up_eq, up_ne, ra_ne, ra_fn, upr_eq, upr_ne, not_false_eq_true, ne_eq]
  refine ⟨?_, ?_, ?_, ?_, ?_, ?_, ?_, ?_, ?_, ?_, ?_, ?_, ?_, ?_, ?_, ?_, ?_, ?_, ?_⟩
  · exact a_sky
  · exact a_land
  · exact a_price
  · exact I_ints_up a_ints
  · exact a_logA
  · exact a_logB
  · exact a_live
  · exact a_lying
  · exact a_ways
  · exact a_crews
  · exact a_dbl
  · exact a_tape
  · exact a_law
  · exact a_ord
  · exact a_spur
  · exact a_cuts
  · exact a_cru
  · exact a_kf
  · exact a_tn
theorem sx_cell {σ : St} {x1 x2 : Int} {Q : Int → St → Prop} (h1 : inR x1) (h2 : inR x2)  (q1 : 0 ≤ x1 ∧ x1 ≤ 63 ∧ 0 ≤ x2 ∧ x2 ≤ 40 → ∀ r : Int, r = 1 → Q r (st σ 28 0 (Int.toNat x1) x2)) (q0 : ¬ (0 ≤ x1 ∧ x1 ≤ 63 ∧ 0 ≤ x2 ∧ x2 ≤ 40) → Q 0 σ) : wp_X11_cell σ x1 x2 Q := by
  simp (decide := true) only [rs_ne, rs_fn, upj_eq, upj_ne, up_eq, up_ne, ra_ne, ra_fn, upr_eq, upr_ne, not_false_eq_true, ne_eq, wp_X11_cell, wp_X11_isCell, forall_eq]
  repeat' first
    | with_reducible assumption
    | with_reducible rfl
    | with_reducible exact True.intro
    | (with_reducible exact Or.inl rfl)
    | (with_reducible exact Or.inr rfl)
    | (apply inR_i <;> decide)
    | with_reducible apply wi_x
    | with_reducible apply wi_m
    | with_reducible apply And.intro
    | (intro σ9 e9; subst e9)
    | intro _
  all_goals first
    | omega
    | (exfalso; omega)
    | (constructor <;> omega)
    | (exact q1 (by omega) _ (by omega))
    | (exact q0 (by omega))
theorem sm_cell {σ : St} {x1 x2 : Int} {Q : Int → St → Prop} (h1 : inR x1) (h2 : inR x2)  (q1 : 0 ≤ x1 ∧ x1 ≤ 63 ∧ 0 ≤ x2 ∧ x2 ≤ 40 → ∀ r : Int, r = 1 → Q r (st (st σ 12 0 0 0) 83 0 (Int.toNat x1) x2)) (q0 : ¬ (0 ≤ x1 ∧ x1 ≤ 63 ∧ 0 ≤ x2 ∧ x2 ≤ 40) → Q 0 (st σ 12 0 0 0)) : wp_X12_cell σ x1 x2 Q := by
  unfold wp_X12_cell
  intro τ eτ
  rw [← eτ] at q1 q0
  clear eτ
  try simp (decide := true) only [rs_ne, rs_fn, upj_eq, upj_ne, up_eq, up_ne, ra_ne, ra_fn, upr_eq, upr_ne, not_false_eq_true, ne_eq, wp_X12_isCell, forall_eq]
  repeat' first
    | with_reducible assumption
    | with_reducible rfl
    | with_reducible exact True.intro
    | (with_reducible exact Or.inl rfl)
    | (with_reducible exact Or.inr rfl)
    | (apply inR_i <;> decide)
    | with_reducible apply wi_x
    | with_reducible apply wi_m
    | with_reducible apply And.intro
    | (intro σ9 e9; subst e9)
    | intro _
  all_goals first
    | omega
    | (exfalso; omega)
    | (constructor <;> omega)
    | (exact q1 (by omega) _ (by omega))
    | (exact q0 (by omega))
theorem op_cell {n : Nat} {σ : St} {x1 x2 : Int} (hI : Inv n σ) (h1 : inR x1) (h2 : inR x2)  : wp_X11_cell σ x1 x2 (fun r σ1 => wp_X12_cell σ1 x1 x2 (fun r2 σ2 => r2 = r ∧ Inv (n + 1) σ2)) := by
  have hI0 := hI
  obtain ⟨a_sky, a_land, a_price, a_ints, a_logA, a_logB, a_live, a_lying, a_ways, a_crews, a_dbl, a_tape, a_law, a_ord, a_spur, a_cuts, a_cru, a_kf, a_tn⟩ := hI
  refine sx_cell h1 h2  (fun hc r9 e9 => ?_) (fun hc => ?_)
  · refine sm_cell h1 h2  (fun hd r8 e8 => ⟨by omega, ?_⟩) (fun hd => absurd (by omega) hd)
    unfold Inv
    simp (decide := true) only [rs_ne, rs_fn, upj_eq, upj_ne, up_eq, up_ne, ra_ne, ra_fn, upr_eq, upr_ne, not_false_eq_true, ne_eq]
    refine ⟨?_, ?_, ?_, ?_, ?_, ?_, ?_, ?_, ?_, ?_, ?_, ?_, ?_, ?_, ?_, ?_, ?_, ?_, ?_⟩
    · exact a_sky
    · obtain ⟨⟨l1, l2, l3, l4, l5, l6⟩, lm, lh, ls, lt, lg, lp⟩ := a_land; exact ⟨⟨by rw [l1], l2, l3, l4, l5, l6⟩, lm, up_all (P := fun x => 0 ≤ x ∧ x ≤ 40) lh ⟨by omega, by omega⟩, ls, lt, lg, lp⟩
    · exact a_price
    · exact I_ints_up a_ints
    · exact a_logA
    · exact a_logB
    · exact a_live
    · exact a_lying
    · exact a_ways
    · exact a_crews
    · exact a_dbl
    · exact a_tape
    · exact a_law
    · exact a_ord
    · exact a_spur
    · exact a_cuts
    · exact a_cru
    · exact a_kf
    · exact a_tn
  · refine sm_cell h1 h2  (fun hd => absurd (by omega) hc) (fun hd => ⟨rfl, Inv_t hI0⟩)
theorem sx_stand {σ : St} {x1 x2 x3 x4 : Int} {Q : Int → St → Prop} (h1 : inR x1) (h2 : inR x2) (h3 : inR x3) (h4 : inR x4)  (q1 : 0 ≤ x1 ∧ x1 ≤ 63 ∧ 0 ≤ x2 ∧ x2 ≤ 3 ∧ 0 ≤ x3 ∧ x3 ≤ 3 ∧ 0 ≤ x4 ∧ x4 ≤ 200 → ∀ r : Int, r = 1 → Q r (st σ 30 0 (Int.toNat (x1 * 16 + x2 * 4 + x3)) x4)) (q0 : ¬ (0 ≤ x1 ∧ x1 ≤ 63 ∧ 0 ≤ x2 ∧ x2 ≤ 3 ∧ 0 ≤ x3 ∧ x3 ≤ 3 ∧ 0 ≤ x4 ∧ x4 ≤ 200) → Q 0 σ) : wp_X11_stand σ x1 x2 x3 x4 Q := by
  simp (decide := true) only [rs_ne, rs_fn, upj_eq, upj_ne, up_eq, up_ne, ra_ne, ra_fn, upr_eq, upr_ne, not_false_eq_true, ne_eq, wp_X11_stand, wp_X11_isCell, wp_X11_isStem, wp_X3_stemPlace, forall_eq]
  repeat' first
    | with_reducible assumption
    | with_reducible rfl
    | with_reducible exact True.intro
    | (with_reducible exact Or.inl rfl)
    | (with_reducible exact Or.inr rfl)
    | (apply inR_i <;> decide)
    | with_reducible apply wi_x
    | with_reducible apply wi_m
    | with_reducible apply And.intro
    | (intro σ9 e9; subst e9)
    | intro _
  all_goals first
    | omega
    | (exfalso; omega)
    | (constructor <;> omega)
    | (exact q1 (by omega) _ (by omega))
    | (exact q0 (by omega))
theorem sm_stand {σ : St} {x1 x2 x3 x4 : Int} {Q : Int → St → Prop} (h1 : inR x1) (h2 : inR x2) (h3 : inR x3) (h4 : inR x4)  (q1 : 0 ≤ x1 ∧ x1 ≤ 63 ∧ 0 ≤ x2 ∧ x2 ≤ 3 ∧ 0 ≤ x3 ∧ x3 ≤ 3 ∧ 0 ≤ x4 ∧ x4 ≤ 200 → ∀ r : Int, r = 1 → Q r (st (st σ 12 0 0 0) 85 0 (Int.toNat (16 * x1 + 4 * x2 + x3)) x4)) (q0 : ¬ (0 ≤ x1 ∧ x1 ≤ 63 ∧ 0 ≤ x2 ∧ x2 ≤ 3 ∧ 0 ≤ x3 ∧ x3 ≤ 3 ∧ 0 ≤ x4 ∧ x4 ≤ 200) → Q 0 (st σ 12 0 0 0)) : wp_X12_stand σ x1 x2 x3 x4 Q := by
  unfold wp_X12_stand
  intro τ eτ
  rw [← eτ] at q1 q0
  clear eτ
  try simp (decide := true) only [rs_ne, rs_fn, upj_eq, upj_ne, up_eq, up_ne, ra_ne, ra_fn, upr_eq, upr_ne, not_false_eq_true, ne_eq, wp_X12_isCell, wp_X12_isStem, wp_X12_stemAt, forall_eq]
  repeat' first
    | with_reducible assumption
    | with_reducible rfl
    | with_reducible exact True.intro
    | (with_reducible exact Or.inl rfl)
    | (with_reducible exact Or.inr rfl)
    | (apply inR_i <;> decide)
    | with_reducible apply wi_x
    | with_reducible apply wi_m
    | with_reducible apply And.intro
    | (intro σ9 e9; subst e9)
    | intro _
  all_goals first
    | omega
    | (exfalso; omega)
    | (constructor <;> omega)
    | (exact q1 (by omega) _ (by omega))
    | (exact q0 (by omega))
theorem op_stand {n : Nat} {σ : St} {x1 x2 x3 x4 : Int} (hI : Inv n σ) (h1 : inR x1) (h2 : inR x2) (h3 : inR x3) (h4 : inR x4)  : wp_X11_stand σ x1 x2 x3 x4 (fun r σ1 => wp_X12_stand σ1 x1 x2 x3 x4 (fun r2 σ2 => r2 = r ∧ Inv (n + 1) σ2)) := by
  have hI0 := hI
  obtain ⟨a_sky, a_land, a_price, a_ints, a_logA, a_logB, a_live, a_lying, a_ways, a_crews, a_dbl, a_tape, a_law, a_ord, a_spur, a_cuts, a_cru, a_kf, a_tn⟩ := hI
  refine sx_stand h1 h2 h3 h4  (fun hc r9 e9 => ?_) (fun hc => ?_)
  · refine sm_stand h1 h2 h3 h4  (fun hd r8 e8 => ⟨by omega, ?_⟩) (fun hd => absurd (by omega) hd)
    unfold Inv
    simp (decide := true) only [rs_ne, rs_fn, upj_eq, upj_ne, up_eq, up_ne, ra_ne, ra_fn, upr_eq, upr_ne, not_false_eq_true, ne_eq]
    refine ⟨?_, ?_, ?_, ?_, ?_, ?_, ?_, ?_, ?_, ?_, ?_, ?_, ?_, ?_, ?_, ?_, ?_, ?_, ?_⟩
    · exact a_sky
    · obtain ⟨⟨l1, l2, l3, l4, l5, l6⟩, lm, lh, ls, lt, lg, lp⟩ := a_land; refine ⟨⟨l1, l2, ?_, l4, l5, l6⟩, lm, lh, ls, up_all (P := fun x => 0 ≤ x ∧ x ≤ 200) lt ⟨by omega, by omega⟩, lg, lp⟩; rw [l3]; congr 1; omega
    · exact a_price
    · exact I_ints_up a_ints
    · exact a_logA
    · exact a_logB
    · exact a_live
    · exact a_lying
    · exact a_ways
    · exact a_crews
    · exact a_dbl
    · exact a_tape
    · exact a_law
    · exact a_ord
    · exact a_spur
    · exact a_cuts
    · exact a_cru
    · exact a_kf
    · exact a_tn
  · refine sm_stand h1 h2 h3 h4  (fun hd => absurd (by omega) hc) (fun hd => ⟨rfl, Inv_t hI0⟩)
theorem sx_sort {σ : St} {x1 x2 x3 : Int} {Q : Int → St → Prop} (h1 : inR x1) (h2 : inR x2) (h3 : inR x3)  (q1 : 0 ≤ x1 ∧ x1 ≤ 3 ∧ 0 ≤ x2 ∧ x2 ≤ 100 ∧ 1 ≤ x3 ∧ x3 ≤ 3 → ∀ r : Int, r = 1 → Q r (st (st σ 32 0 (Int.toNat x1) x2) 33 0 (Int.toNat x1) x3)) (q0 : ¬ (0 ≤ x1 ∧ x1 ≤ 3 ∧ 0 ≤ x2 ∧ x2 ≤ 100 ∧ 1 ≤ x3 ∧ x3 ≤ 3) → Q 0 σ) : wp_X11_sort σ x1 x2 x3 Q := by
  simp (decide := true) only [rs_ne, rs_fn, upj_eq, upj_ne, up_eq, up_ne, ra_ne, ra_fn, upr_eq, upr_ne, not_false_eq_true, ne_eq, wp_X11_sort, forall_eq]
  repeat' first
    | with_reducible assumption
    | with_reducible rfl
    | with_reducible exact True.intro
    | (with_reducible exact Or.inl rfl)
    | (with_reducible exact Or.inr rfl)
    | (apply inR_i <;> decide)
    | with_reducible apply wi_x
    | with_reducible apply wi_m
    | with_reducible apply And.intro
    | (intro σ9 e9; subst e9)
    | intro _
  all_goals first
    | omega
    | (exfalso; omega)
    | (constructor <;> omega)
    | (exact q1 (by omega) _ (by omega))
    | (exact q0 (by omega))
theorem sm_sort {σ : St} {x1 x2 x3 : Int} {Q : Int → St → Prop} (h1 : inR x1) (h2 : inR x2) (h3 : inR x3)  (q1 : 0 ≤ x1 ∧ x1 ≤ 3 ∧ 0 ≤ x2 ∧ x2 ≤ 100 ∧ 1 ≤ x3 ∧ x3 ≤ 3 → ∀ r : Int, r = 1 → Q r (st (st (st σ 12 0 0 0) 86 0 (Int.toNat x1) x2) 87 0 (Int.toNat x1) x3)) (q0 : ¬ (0 ≤ x1 ∧ x1 ≤ 3 ∧ 0 ≤ x2 ∧ x2 ≤ 100 ∧ 1 ≤ x3 ∧ x3 ≤ 3) → Q 0 (st σ 12 0 0 0)) : wp_X12_sort σ x1 x2 x3 Q := by
  unfold wp_X12_sort
  intro τ eτ
  rw [← eτ] at q1 q0
  clear eτ
  try simp (decide := true) only [rs_ne, rs_fn, upj_eq, upj_ne, up_eq, up_ne, ra_ne, ra_fn, upr_eq, upr_ne, not_false_eq_true, ne_eq, forall_eq]
  repeat' first
    | with_reducible assumption
    | with_reducible rfl
    | with_reducible exact True.intro
    | (with_reducible exact Or.inl rfl)
    | (with_reducible exact Or.inr rfl)
    | (apply inR_i <;> decide)
    | with_reducible apply wi_x
    | with_reducible apply wi_m
    | with_reducible apply And.intro
    | (intro σ9 e9; subst e9)
    | intro _
  all_goals first
    | omega
    | (exfalso; omega)
    | (constructor <;> omega)
    | (exact q1 (by omega) _ (by omega))
    | (exact q0 (by omega))
theorem op_sort {n : Nat} {σ : St} {x1 x2 x3 : Int} (hI : Inv n σ) (h1 : inR x1) (h2 : inR x2) (h3 : inR x3)  : wp_X11_sort σ x1 x2 x3 (fun r σ1 => wp_X12_sort σ1 x1 x2 x3 (fun r2 σ2 => r2 = r ∧ Inv (n + 1) σ2)) := by
  have hI0 := hI
  obtain ⟨a_sky, a_land, a_price, a_ints, a_logA, a_logB, a_live, a_lying, a_ways, a_crews, a_dbl, a_tape, a_law, a_ord, a_spur, a_cuts, a_cru, a_kf, a_tn⟩ := hI
  refine sx_sort h1 h2 h3  (fun hc r9 e9 => ?_) (fun hc => ?_)
  · refine sm_sort h1 h2 h3  (fun hd r8 e8 => ⟨by omega, ?_⟩) (fun hd => absurd (by omega) hd)
    unfold Inv
    simp (decide := true) only [rs_ne, rs_fn, upj_eq, upj_ne, up_eq, up_ne, ra_ne, ra_fn, upr_eq, upr_ne, not_false_eq_true, ne_eq]
    refine ⟨?_, ?_, ?_, ?_, ?_, ?_, ?_, ?_, ?_, ?_, ?_, ?_, ?_, ?_, ?_, ?_, ?_, ?_, ?_⟩
    · exact a_sky
    · obtain ⟨⟨l1, l2, l3, l4, l5, l6⟩, lm, lh, ls, lt, lg, lp⟩ := a_land; exact ⟨⟨l1, l2, l3, by rw [l4], by rw [l5], l6⟩, lm, lh, ls, lt, up_all (P := fun x => 0 ≤ x ∧ x ≤ 100) lg ⟨by omega, by omega⟩, fun i hi => by unfold up; split; exact ⟨by omega, by omega⟩; exact lp i hi⟩
    · exact a_price
    · exact I_ints_up a_ints
    · exact a_logA
    · exact a_logB
    · exact a_live
    · exact a_lying
    · exact a_ways
    · exact a_crews
    · exact a_dbl
    · exact a_tape
    · exact a_law
    · exact a_ord
    · exact a_spur
    · exact a_cuts
    · exact a_cru
    · exact a_kf
    · exact a_tn
  · refine sm_sort h1 h2 h3  (fun hd => absurd (by omega) hc) (fun hd => ⟨rfl, Inv_t hI0⟩)
theorem sx_price {σ : St} {x1 x2 : Int} {Q : Int → St → Prop} (h1 : inR x1) (h2 : inR x2)  (q1 : 2 ≤ x1 ∧ x1 ≤ 6 ∧ 0 ≤ x2 ∧ x2 ≤ 99 → ∀ r : Int, r = 1 → Q r (st σ 20 0 (Int.toNat x1) x2)) (q0 : ¬ (2 ≤ x1 ∧ x1 ≤ 6 ∧ 0 ≤ x2 ∧ x2 ≤ 99) → Q 0 σ) : wp_X11_price σ x1 x2 Q := by
  simp (decide := true) only [rs_ne, rs_fn, upj_eq, upj_ne, up_eq, up_ne, ra_ne, ra_fn, upr_eq, upr_ne, not_false_eq_true, ne_eq, wp_X11_price, forall_eq]
  repeat' first
    | with_reducible assumption
    | with_reducible rfl
    | with_reducible exact True.intro
    | (with_reducible exact Or.inl rfl)
    | (with_reducible exact Or.inr rfl)
    | (apply inR_i <;> decide)
    | with_reducible apply wi_x
    | with_reducible apply wi_m
    | with_reducible apply And.intro
    | (intro σ9 e9; subst e9)
    | intro _
  all_goals first
    | omega
    | (exfalso; omega)
    | (constructor <;> omega)
    | (exact q1 (by omega) _ (by omega))
    | (exact q0 (by omega))
theorem sm_price {σ : St} {x1 x2 : Int} {Q : Int → St → Prop} (h1 : inR x1) (h2 : inR x2)  (q1 : 2 ≤ x1 ∧ x1 ≤ 6 ∧ 0 ≤ x2 ∧ x2 ≤ 99 → ∀ r : Int, r = 1 → Q r (st (st σ 12 0 0 0) 92 0 (Int.toNat x1) x2)) (q0 : ¬ (2 ≤ x1 ∧ x1 ≤ 6 ∧ 0 ≤ x2 ∧ x2 ≤ 99) → Q 0 (st σ 12 0 0 0)) : wp_X12_price σ x1 x2 Q := by
  unfold wp_X12_price
  intro τ eτ
  rw [← eτ] at q1 q0
  clear eτ
  try simp (decide := true) only [rs_ne, rs_fn, upj_eq, upj_ne, up_eq, up_ne, ra_ne, ra_fn, upr_eq, upr_ne, not_false_eq_true, ne_eq, forall_eq]
  repeat' first
    | with_reducible assumption
    | with_reducible rfl
    | with_reducible exact True.intro
    | (with_reducible exact Or.inl rfl)
    | (with_reducible exact Or.inr rfl)
    | (apply inR_i <;> decide)
    | with_reducible apply wi_x
    | with_reducible apply wi_m
    | with_reducible apply And.intro
    | (intro σ9 e9; subst e9)
    | intro _
  all_goals first
    | omega
    | (exfalso; omega)
    | (constructor <;> omega)
    | (exact q1 (by omega) _ (by omega))
    | (exact q0 (by omega))
theorem op_price {n : Nat} {σ : St} {x1 x2 : Int} (hI : Inv n σ) (h1 : inR x1) (h2 : inR x2)  : wp_X11_price σ x1 x2 (fun r σ1 => wp_X12_price σ1 x1 x2 (fun r2 σ2 => r2 = r ∧ Inv (n + 1) σ2)) := by
  have hI0 := hI
  obtain ⟨a_sky, a_land, a_price, a_ints, a_logA, a_logB, a_live, a_lying, a_ways, a_crews, a_dbl, a_tape, a_law, a_ord, a_spur, a_cuts, a_cru, a_kf, a_tn⟩ := hI
  refine sx_price h1 h2  (fun hc r9 e9 => ?_) (fun hc => ?_)
  · refine sm_price h1 h2  (fun hd r8 e8 => ⟨by omega, ?_⟩) (fun hd => absurd (by omega) hd)
    unfold Inv
    simp (decide := true) only [rs_ne, rs_fn, upj_eq, upj_ne, up_eq, up_ne, ra_ne, ra_fn, upr_eq, upr_ne, not_false_eq_true, ne_eq]
    refine ⟨?_, ?_, ?_, ?_, ?_, ?_, ?_, ?_, ?_, ?_, ?_, ?_, ?_, ?_, ?_, ?_, ?_, ?_, ?_⟩
    · exact a_sky
    · exact a_land
    · obtain ⟨p1, p2⟩ := a_price; exact ⟨by rw [p1], up_all (P := fun x => 0 ≤ x ∧ x ≤ 99) p2 ⟨by omega, by omega⟩⟩
    · exact I_ints_up a_ints
    · exact a_logA
    · exact a_logB
    · exact a_live
    · exact a_lying
    · exact a_ways
    · exact a_crews
    · exact a_dbl
    · exact a_tape
    · exact a_law
    · exact a_ord
    · exact a_spur
    · exact a_cuts
    · exact a_cru
    · exact a_kf
    · exact a_tn
  · refine sm_price h1 h2  (fun hd => absurd (by omega) hc) (fun hd => ⟨rfl, Inv_t hI0⟩)
theorem sx_lease {σ : St} {x1 : Int} {Q : Int → St → Prop} (h1 : inR x1)  (q1 : 0 ≤ x1 ∧ x1 ≤ 1 → ∀ r : Int, r = 1 → Q r (st σ 11 0 12 x1)) (q0 : ¬ (0 ≤ x1 ∧ x1 ≤ 1) → Q 0 σ) : wp_X11_lease σ x1 Q := by
  simp (decide := true) only [rs_ne, rs_fn, upj_eq, upj_ne, up_eq, up_ne, ra_ne, ra_fn, upr_eq, upr_ne, not_false_eq_true, ne_eq, wp_X11_lease, forall_eq]
  repeat' first
    | with_reducible assumption
    | with_reducible rfl
    | with_reducible exact True.intro
    | (with_reducible exact Or.inl rfl)
    | (with_reducible exact Or.inr rfl)
    | (apply inR_i <;> decide)
    | with_reducible apply wi_x
    | with_reducible apply wi_m
    | with_reducible apply And.intro
    | (intro σ9 e9; subst e9)
    | intro _
  all_goals first
    | omega
    | (exfalso; omega)
    | (constructor <;> omega)
    | (exact q1 (by omega) _ (by omega))
    | (exact q0 (by omega))
theorem sm_lease {σ : St} {x1 : Int} {Q : Int → St → Prop} (h1 : inR x1)  (q1 : 0 ≤ x1 ∧ x1 ≤ 1 → ∀ r : Int, r = 1 → Q r (st (st σ 12 0 0 0) 12 0 66 x1)) (q0 : ¬ (0 ≤ x1 ∧ x1 ≤ 1) → Q 0 (st σ 12 0 0 0)) : wp_X12_lease σ x1 Q := by
  unfold wp_X12_lease
  intro τ eτ
  rw [← eτ] at q1 q0
  clear eτ
  try simp (decide := true) only [rs_ne, rs_fn, upj_eq, upj_ne, up_eq, up_ne, ra_ne, ra_fn, upr_eq, upr_ne, not_false_eq_true, ne_eq, forall_eq]
  repeat' first
    | with_reducible assumption
    | with_reducible rfl
    | with_reducible exact True.intro
    | (with_reducible exact Or.inl rfl)
    | (with_reducible exact Or.inr rfl)
    | (apply inR_i <;> decide)
    | with_reducible apply wi_x
    | with_reducible apply wi_m
    | with_reducible apply And.intro
    | (intro σ9 e9; subst e9)
    | intro _
  all_goals first
    | omega
    | (exfalso; omega)
    | (constructor <;> omega)
    | (exact q1 (by omega) _ (by omega))
    | (exact q0 (by omega))
theorem op_lease {n : Nat} {σ : St} {x1 : Int} (hI : Inv n σ) (h1 : inR x1)  : wp_X11_lease σ x1 (fun r σ1 => wp_X12_lease σ1 x1 (fun r2 σ2 => r2 = r ∧ Inv (n + 1) σ2)) := by
  have hI0 := hI
  obtain ⟨a_sky, a_land, a_price, a_ints, a_logA, a_logB, a_live, a_lying, a_ways, a_crews, a_dbl, a_tape, a_law, a_ord, a_spur, a_cuts, a_cru, a_kf, a_tn⟩ := hI
  refine sx_lease h1  (fun hc r9 e9 => ?_) (fun hc => ?_)
  · refine sm_lease h1  (fun hd r8 e8 => ⟨by omega, ?_⟩) (fun hd => absurd (by omega) hd)
    unfold Inv
    simp (decide := true) only [rs_ne, rs_fn, upj_eq, upj_ne, up_eq, up_ne, ra_ne, ra_fn, upr_eq, upr_ne, not_false_eq_true, ne_eq]
    refine ⟨?_, ?_, ?_, ?_, ?_, ?_, ?_, ?_, ?_, ?_, ?_, ?_, ?_, ?_, ?_, ?_, ?_, ?_, ?_⟩
    · exact a_sky
    · exact a_land
    · exact a_price
    · obtain ⟨⟨i1, i2, i3⟩, i4, i5, i6, i7⟩ := a_ints; exact ⟨⟨i1, rfl, i3⟩, i4, by omega, by omega, by omega⟩
    · exact a_logA
    · exact a_logB
    · exact a_live
    · exact a_lying
    · exact a_ways
    · exact a_crews
    · exact a_dbl
    · exact a_tape
    · exact a_law
    · exact a_ord
    · exact a_spur
    · exact a_cuts
    · exact a_cru
    · exact a_kf
    · exact a_tn
  · refine sm_lease h1  (fun hd => absurd (by omega) hc) (fun hd => ⟨rfl, Inv_t hI0⟩)
theorem sx_asked {σ : St} {x1 x2 : Int} {Q : Int → St → Prop} (h1 : inR x1) (h2 : inR x2)  (q1 : 0 ≤ x1 ∧ x1 ≤ 3 ∧ 0 ≤ x2 → ∀ r : Int, r = 1 → Q r (st σ 42 0 (Int.toNat x1) x2)) (q0 : ¬ (0 ≤ x1 ∧ x1 ≤ 3 ∧ 0 ≤ x2) → Q 0 σ) : wp_X11_asked σ x1 x2 Q := by
  simp (decide := true) only [rs_ne, rs_fn, upj_eq, upj_ne, up_eq, up_ne, ra_ne, ra_fn, upr_eq, upr_ne, not_false_eq_true, ne_eq, wp_X11_asked, forall_eq]
  repeat' first
    | with_reducible assumption
    | with_reducible rfl
    | with_reducible exact True.intro
    | (with_reducible exact Or.inl rfl)
    | (with_reducible exact Or.inr rfl)
    | (apply inR_i <;> decide)
    | with_reducible apply wi_x
    | with_reducible apply wi_m
    | with_reducible apply And.intro
    | (intro σ9 e9; subst e9)
    | intro _
  all_goals first
    | omega
    | (exfalso; omega)
    | (constructor <;> omega)
    | (exact q1 (by omega) _ (by omega))
    | (exact q0 (by omega))
theorem sm_asked {σ : St} {x1 x2 : Int} {Q : Int → St → Prop} (h1 : inR x1) (h2 : inR x2)  (q1 : 0 ≤ x1 ∧ x1 ≤ 3 ∧ 0 ≤ x2 → ∀ r : Int, r = 1 → Q r (st (st σ 12 0 0 0) 145 0 (Int.toNat x1) x2)) (q0 : ¬ (0 ≤ x1 ∧ x1 ≤ 3 ∧ 0 ≤ x2) → Q 0 (st σ 12 0 0 0)) : wp_X12_asked σ x1 x2 Q := by
  unfold wp_X12_asked
  intro τ eτ
  rw [← eτ] at q1 q0
  clear eτ
  try simp (decide := true) only [rs_ne, rs_fn, upj_eq, upj_ne, up_eq, up_ne, ra_ne, ra_fn, upr_eq, upr_ne, not_false_eq_true, ne_eq, forall_eq]
  repeat' first
    | with_reducible assumption
    | with_reducible rfl
    | with_reducible exact True.intro
    | (with_reducible exact Or.inl rfl)
    | (with_reducible exact Or.inr rfl)
    | (apply inR_i <;> decide)
    | with_reducible apply wi_x
    | with_reducible apply wi_m
    | with_reducible apply And.intro
    | (intro σ9 e9; subst e9)
    | intro _
  all_goals first
    | omega
    | (exfalso; omega)
    | (constructor <;> omega)
    | (exact q1 (by omega) _ (by omega))
    | (exact q0 (by omega))
theorem op_asked {n : Nat} {σ : St} {x1 x2 : Int} (hI : Inv n σ) (h1 : inR x1) (h2 : inR x2)  : wp_X11_asked σ x1 x2 (fun r σ1 => wp_X12_asked σ1 x1 x2 (fun r2 σ2 => r2 = r ∧ Inv (n + 1) σ2)) := by
  have hI0 := hI
  obtain ⟨a_sky, a_land, a_price, a_ints, a_logA, a_logB, a_live, a_lying, a_ways, a_crews, a_dbl, a_tape, a_law, a_ord, a_spur, a_cuts, a_cru, a_kf, a_tn⟩ := hI
  refine sx_asked h1 h2  (fun hc r9 e9 => ?_) (fun hc => ?_)
  · refine sm_asked h1 h2  (fun hd r8 e8 => ⟨by omega, ?_⟩) (fun hd => absurd (by omega) hd)
    unfold Inv
    simp (decide := true) only [rs_ne, rs_fn, upj_eq, upj_ne, up_eq, up_ne, ra_ne, ra_fn, upr_eq, upr_ne, not_false_eq_true, ne_eq]
    refine ⟨?_, ?_, ?_, ?_, ?_, ?_, ?_, ?_, ?_, ?_, ?_, ?_, ?_, ?_, ?_, ?_, ?_, ?_, ?_⟩
    · exact a_sky
    · exact a_land
    · exact a_price
    · exact I_ints_up a_ints
    · exact a_logA
    · exact a_logB
    · exact a_live
    · exact a_lying
    · exact a_ways
    · exact a_crews
    · exact a_dbl
    · exact a_tape
    · exact a_law
    · exact a_ord
    · obtain ⟨s1, ⟨s2, s3, s4, s5⟩, s6, s7, s8⟩ := a_spur; exact ⟨s1, ⟨s2, s3, s4, by rw [s5]⟩, s6, up_all (P := fun x => 0 ≤ x ∧ x < 2147483648) s7 ⟨by omega, h2.2⟩, s8⟩
    · exact a_cuts
    · exact a_cru
    · exact a_kf
    · exact a_tn
  · refine sm_asked h1 h2  (fun hd => absurd (by omega) hc) (fun hd => ⟨rfl, Inv_t hI0⟩)
theorem sx_mill {σ : St} {x1 : Int} {Q : Int → St → Prop} (h1 : inR x1) (f1 : inR (σ 11 0 4)) (q1 : 0 ≤ x1 ∧ x1 ≤ 63 ∧ σ 11 0 4 ≤ 0 → ∀ r : Int, r = 1 → Q r (st σ 3 0 6 x1)) (q0 : ¬ (0 ≤ x1 ∧ x1 ≤ 63 ∧ σ 11 0 4 ≤ 0) → Q 0 σ) : wp_X11_mill σ x1 Q := by
  simp (decide := true) only [rs_ne, rs_fn, upj_eq, upj_ne, up_eq, up_ne, ra_ne, ra_fn, upr_eq, upr_ne, not_false_eq_true, ne_eq, wp_X11_mill, wp_X11_isCell, forall_eq]
  repeat' first
    | with_reducible assumption
    | with_reducible rfl
    | with_reducible exact True.intro
    | (with_reducible exact Or.inl rfl)
    | (with_reducible exact Or.inr rfl)
    | (apply inR_i <;> decide)
    | with_reducible apply wi_x
    | with_reducible apply wi_m
    | with_reducible apply And.intro
    | (intro σ9 e9; subst e9)
    | intro _
  all_goals first
    | omega
    | (exfalso; omega)
    | (constructor <;> omega)
    | (exact q1 (by omega) _ (by omega))
    | (exact q0 (by omega))
theorem sm_mill {σ : St} {x1 : Int} {Q : Int → St → Prop} (h1 : inR x1) (f1 : inR (σ 12 0 17)) (q1 : 0 ≤ x1 ∧ x1 ≤ 63 ∧ σ 12 0 17 ≤ 0 → ∀ r : Int, r = 1 → Q r (st (st σ 12 0 0 0) 12 0 7 x1)) (q0 : ¬ (0 ≤ x1 ∧ x1 ≤ 63 ∧ σ 12 0 17 ≤ 0) → Q 0 (st σ 12 0 0 0)) : wp_X12_mill σ x1 Q := by
  unfold wp_X12_mill
  intro τ eτ
  have g17 : τ 12 0 17 = σ 12 0 17 := by rw [eτ, rs_eq, up_ne (by decide)]
  rw [← eτ] at q1 q0
  try simp only [← g17] at q1 q0 f1
  clear eτ g17
  try simp (decide := true) only [rs_ne, rs_fn, upj_eq, upj_ne, up_eq, up_ne, ra_ne, ra_fn, upr_eq, upr_ne, not_false_eq_true, ne_eq, wp_X12_isCell, forall_eq]
  repeat' first
    | with_reducible assumption
    | with_reducible rfl
    | with_reducible exact True.intro
    | (with_reducible exact Or.inl rfl)
    | (with_reducible exact Or.inr rfl)
    | (apply inR_i <;> decide)
    | with_reducible apply wi_x
    | with_reducible apply wi_m
    | with_reducible apply And.intro
    | (intro σ9 e9; subst e9)
    | intro _
  all_goals first
    | omega
    | (exfalso; omega)
    | (constructor <;> omega)
    | (exact q1 (by omega) _ (by omega))
    | (exact q0 (by omega))
theorem op_mill {n : Nat} {σ : St} {x1 : Int} (hI : Inv n σ) (h1 : inR x1) : wp_X11_mill σ x1 (fun r σ1 => wp_X12_mill σ1 x1 (fun r2 σ2 => r2 = r ∧ Inv (n + 1) σ2)) := by
  have hI0 := hI
  obtain ⟨a_sky, a_land, a_price, a_ints, a_logA, a_logB, a_live, a_lying, a_ways, a_crews, a_dbl, a_tape, a_law, a_ord, a_spur, a_cuts, a_cru, a_kf, a_tn⟩ := hI
  obtain ⟨v1, v2, -⟩ := id a_live
  refine sx_mill h1 ⟨by omega, by omega⟩ (fun hc r9 e9 => ?_) (fun hc => ?_)
  · refine sm_mill h1 (by rw [rs_ne (by decide)]; exact ⟨by omega, by omega⟩) (fun hd r8 e8 => ⟨by omega, ?_⟩) (fun hd => absurd (by rw [rs_ne (by decide)]; omega) hd)
    unfold Inv
    simp (decide := true) only [rs_ne, rs_fn, upj_eq, upj_ne, up_eq, up_ne, ra_ne, ra_fn, upr_eq, upr_ne, not_false_eq_true, ne_eq]
    refine ⟨?_, ?_, ?_, ?_, ?_, ?_, ?_, ?_, ?_, ?_, ?_, ?_, ?_, ?_, ?_, ?_, ?_, ?_, ?_⟩
    · exact a_sky
    · obtain ⟨⟨l1, l2, l3, l4, l5, l6⟩, lm, lh, ls, lt, lg, lp⟩ := a_land; exact ⟨⟨l1, l2, l3, l4, l5, rfl⟩, ⟨by omega, by omega⟩, lh, ls, lt, lg, lp⟩
    · exact a_price
    · exact I_ints_up a_ints
    · exact a_logA
    · exact a_logB
    · exact a_live
    · exact a_lying
    · exact a_ways
    · exact a_crews
    · exact a_dbl
    · exact a_tape
    · exact a_law
    · exact a_ord
    · exact a_spur
    · exact a_cuts
    · exact a_cru
    · exact a_kf
    · exact a_tn
  · refine sm_mill h1 ⟨by omega, by omega⟩ (fun hd => absurd (by omega) hc) (fun hd => ⟨rfl, Inv_t hI0⟩)
theorem sx_iron {σ : St} {x1 : Int} {Q : Int → St → Prop} (h1 : inR x1) (f1 : 0 ≤ σ 11 0 7) (f2 : σ 11 0 7 ≤ 100000) (q1 : 0 ≤ x1 ∧ x1 ≤ 500 ∧ σ 11 0 7 + x1 ≤ 5000 → ∀ r : Int, r = σ 11 0 7 + x1 → Q r (st σ 11 0 7 (σ 11 0 7 + x1))) (q0 : ¬ (0 ≤ x1 ∧ x1 ≤ 500 ∧ σ 11 0 7 + x1 ≤ 5000) → Q (-1) σ) : wp_X11_iron σ x1 Q := by
  simp (decide := true) only [rs_ne, rs_fn, upj_eq, upj_ne, up_eq, up_ne, ra_ne, ra_fn, upr_eq, upr_ne, not_false_eq_true, ne_eq, wp_X11_iron, forall_eq]
  repeat' first
    | with_reducible assumption
    | with_reducible rfl
    | with_reducible exact True.intro
    | (with_reducible exact Or.inl rfl)
    | (with_reducible exact Or.inr rfl)
    | (apply inR_i <;> decide)
    | with_reducible apply wi_x
    | with_reducible apply wi_m
    | with_reducible apply And.intro
    | (intro σ9 e9; subst e9)
    | intro _
  all_goals first
    | omega
    | (exfalso; omega)
    | (constructor <;> omega)
    | (exact q1 (by omega) _ (by omega))
    | (exact q0 (by omega))
theorem sm_iron {σ : St} {x1 : Int} {Q : Int → St → Prop} (h1 : inR x1) (f1 : 0 ≤ σ 12 0 59) (f2 : σ 12 0 59 ≤ 100000) (q1 : 0 ≤ x1 ∧ x1 ≤ 500 ∧ σ 12 0 59 + x1 ≤ 5000 → ∀ r : Int, r = σ 12 0 59 + x1 → Q r (st (st σ 12 0 0 0) 12 0 59 (σ 12 0 59 + x1))) (q0 : ¬ (0 ≤ x1 ∧ x1 ≤ 500 ∧ σ 12 0 59 + x1 ≤ 5000) → Q (-1) (st σ 12 0 0 0)) : wp_X12_iron σ x1 Q := by
  unfold wp_X12_iron
  intro τ eτ
  have g59 : τ 12 0 59 = σ 12 0 59 := by rw [eτ, rs_eq, up_ne (by decide)]
  rw [← eτ] at q1 q0
  try simp only [← g59] at q1 q0 f1 f2
  clear eτ g59
  try simp (decide := true) only [rs_ne, rs_fn, upj_eq, upj_ne, up_eq, up_ne, ra_ne, ra_fn, upr_eq, upr_ne, not_false_eq_true, ne_eq, forall_eq]
  repeat' first
    | with_reducible assumption
    | with_reducible rfl
    | with_reducible exact True.intro
    | (with_reducible exact Or.inl rfl)
    | (with_reducible exact Or.inr rfl)
    | (apply inR_i <;> decide)
    | with_reducible apply wi_x
    | with_reducible apply wi_m
    | with_reducible apply And.intro
    | (intro σ9 e9; subst e9)
    | intro _
  all_goals first
    | omega
    | (exfalso; omega)
    | (constructor <;> omega)
    | (exact q1 (by omega) _ (by omega))
    | (exact q0 (by omega))
theorem op_iron {n : Nat} {σ : St} {x1 : Int} (hI : Inv n σ) (h1 : inR x1) (hn5 : n ≤ 512) : wp_X11_iron σ x1 (fun r σ1 => wp_X12_iron σ1 x1 (fun r2 σ2 => r2 = r ∧ Inv (n + 1) σ2)) := by
  have hI0 := hI
  obtain ⟨a_sky, a_land, a_price, a_ints, a_logA, a_logB, a_live, a_lying, a_ways, a_crews, a_dbl, a_tape, a_law, a_ord, a_spur, a_cuts, a_cru, a_kf, a_tn⟩ := hI
  obtain ⟨⟨i1, i2, i3⟩, i4, i5, i6, i7⟩ := id a_ints
  have q1 : (st σ 11 0 7 (σ 11 0 7 + x1)) 12 0 59 = σ 12 0 59 := by rw [rs_ne (by decide)]
  refine sx_iron h1 i4 (by omega) (fun hc r9 e9 => ?_) (fun hc => ?_)
  · refine sm_iron h1 (by rw [q1]; omega) (by rw [q1]; omega) (fun hd r8 e8 => ⟨by rw [q1] at e8; omega, ?_⟩) (fun hd => absurd (by rw [q1]; omega) hd)
    unfold Inv
    simp (decide := true) only [rs_ne, rs_fn, upj_eq, upj_ne, up_eq, up_ne, ra_ne, ra_fn, upr_eq, upr_ne, not_false_eq_true, ne_eq]
    refine ⟨?_, ?_, ?_, ?_, ?_, ?_, ?_, ?_, ?_, ?_, ?_, ?_, ?_, ?_, ?_, ?_, ?_, ?_, ?_⟩
    · exact a_sky
    · exact a_land
    · exact a_price
    · exact ⟨⟨by omega, i2, i3⟩, by omega, by omega, by omega, by omega⟩
    · exact a_logA
    · exact a_logB
    · exact a_live
    · exact a_lying
    · exact a_ways
    · exact a_crews
    · exact a_dbl
    · exact a_tape
    · exact a_law
    · exact a_ord
    · exact a_spur
    · exact a_cuts
    · exact a_cru
    · exact a_kf
    · exact a_tn
  · refine sm_iron h1 (by omega) (by omega) (fun hd => absurd (by omega) hc) (fun hd => ⟨rfl, Inv_t hI0⟩)
theorem op_place {n : Nat} {σ : St} (hI : Inv n σ) : wp_X11_place σ (fun r σ1 => wp_X12_place σ1 (fun r2 σ2 => r2 = r ∧ Inv (n + 1) σ2)) := by
  obtain ⟨⟨i1, i2, i3⟩, -⟩ := hI.2.2.2.1
  intro s e
  rw [e]
  exact ⟨i3, Inv_t hI⟩
theorem sx_end {σ : St} {x1 : Int} {Q : Int → St → Prop} (h1 : inR x1) (f1 : inR (σ 9 0 1)) (q1 : 0 ≤ x1 ∧ x1 ≤ σ 9 0 1 → ∀ r : Int, r = x1 → Q r (st σ 9 0 1 x1)) (q0 : ¬ (0 ≤ x1 ∧ x1 ≤ σ 9 0 1) → Q (-1) σ) : wp_X11_end σ x1 Q := by
  simp (decide := true) only [rs_ne, rs_fn, upj_eq, upj_ne, up_eq, up_ne, ra_ne, ra_fn, upr_eq, upr_ne, not_false_eq_true, ne_eq, wp_X11_end, forall_eq]
  repeat' first
    | with_reducible assumption
    | with_reducible rfl
    | with_reducible exact True.intro
    | (with_reducible exact Or.inl rfl)
    | (with_reducible exact Or.inr rfl)
    | (apply inR_i <;> decide)
    | with_reducible apply wi_x
    | with_reducible apply wi_m
    | with_reducible apply And.intro
    | (intro σ9 e9; subst e9)
    | intro _
  all_goals first
    | omega
    | (exfalso; omega)
    | (constructor <;> omega)
    | (exact q1 (by omega) _ (by omega))
    | (exact q0 (by omega))
theorem sm_end {σ : St} {x1 : Int} {Q : Int → St → Prop} (h1 : inR x1) (f1 : inR (σ 12 0 44)) (q1 : 0 ≤ x1 ∧ x1 ≤ σ 12 0 44 → ∀ r : Int, r = x1 → Q r (st (st σ 12 0 0 0) 12 0 44 x1)) (q0 : ¬ (0 ≤ x1 ∧ x1 ≤ σ 12 0 44) → Q (-1) (st σ 12 0 0 0)) : wp_X12_end σ x1 Q := by
  unfold wp_X12_end
  intro τ eτ
  have g44 : τ 12 0 44 = σ 12 0 44 := by rw [eτ, rs_eq, up_ne (by decide)]
  rw [← eτ] at q1 q0
  try simp only [← g44] at q1 q0 f1
  clear eτ g44
  try simp (decide := true) only [rs_ne, rs_fn, upj_eq, upj_ne, up_eq, up_ne, ra_ne, ra_fn, upr_eq, upr_ne, not_false_eq_true, ne_eq, forall_eq]
  repeat' first
    | with_reducible assumption
    | with_reducible rfl
    | with_reducible exact True.intro
    | (with_reducible exact Or.inl rfl)
    | (with_reducible exact Or.inr rfl)
    | (apply inR_i <;> decide)
    | with_reducible apply wi_x
    | with_reducible apply wi_m
    | with_reducible apply And.intro
    | (intro σ9 e9; subst e9)
    | intro _
  all_goals first
    | omega
    | (exfalso; omega)
    | (constructor <;> omega)
    | (exact q1 (by omega) _ (by omega))
    | (exact q0 (by omega))
theorem op_end {n : Nat} {σ : St} {x1 : Int} (hI : Inv n σ) (h1 : inR x1) : wp_X11_end σ x1 (fun r σ1 => wp_X12_end σ1 x1 (fun r2 σ2 => r2 = r ∧ Inv (n + 1) σ2)) := by
  have hI0 := hI
  obtain ⟨a_sky, a_land, a_price, a_ints, a_logA, a_logB, a_live, a_lying, a_ways, a_crews, a_dbl, a_tape, a_law, a_ord, a_spur, a_cuts, a_cru, a_kf, a_tn⟩ := hI
  obtain ⟨⟨t1, t2, t3⟩, t4⟩ := id a_tape
  refine sx_end h1 ⟨by omega, by omega⟩ (fun hc r9 e9 => ?_) (fun hc => ?_)
  · refine sm_end h1 (by rw [rs_ne (by decide)]; exact ⟨by omega, by omega⟩) (fun hd r8 e8 => ⟨by omega, ?_⟩) (fun hd => absurd (by rw [rs_ne (by decide)]; omega) hd)
    unfold Inv
    simp (decide := true) only [rs_ne, rs_fn, upj_eq, upj_ne, up_eq, up_ne, ra_ne, ra_fn, upr_eq, upr_ne, not_false_eq_true, ne_eq]
    refine ⟨?_, ?_, ?_, ?_, ?_, ?_, ?_, ?_, ?_, ?_, ?_, ?_, ?_, ?_, ?_, ?_, ?_, ?_, ?_⟩
    · exact a_sky
    · exact a_land
    · exact a_price
    · exact I_ints_up a_ints
    · exact a_logA
    · exact a_logB
    · exact a_live
    · exact a_lying
    · exact a_ways
    · exact a_crews
    · exact a_dbl
    · exact ⟨⟨rfl, by omega, by omega⟩, t4⟩
    · exact a_law
    · exact a_ord
    · exact a_spur
    · exact a_cuts
    · exact a_cru
    · exact a_kf
    · exact a_tn
  · refine sm_end h1 ⟨by omega, by omega⟩ (fun hd => absurd (by omega) hc) (fun hd => ⟨rfl, Inv_t hI0⟩)
theorem sx_spur {σ : St} {x1 x2 x3 : Int} {Q : Int → St → Prop} (h1 : inR x1) (h2 : inR x2) (h3 : inR x3) (f1 : 0 ≤ σ 5 0 3) (f2 : σ 5 0 3 ≤ 9) (f3 : inR (σ 5 0 3)) (q1 : 1 ≤ x1 ∧ 1 ≤ x2 ∧ x2 ≤ 50 ∧ 0 ≤ x3 ∧ x3 ≤ 999 ∧ σ 5 0 3 < 9 → ∀ r : Int, r = σ 5 0 3 → Q r (st (st (st (st σ 39 0 (Int.toNat (σ 5 0 3)) x1) 40 0 (Int.toNat (σ 5 0 3)) x2) 41 0 (Int.toNat (σ 5 0 3)) x3) 5 0 3 (σ 5 0 3 + 1))) (q0 : ¬ (1 ≤ x1 ∧ 1 ≤ x2 ∧ x2 ≤ 50 ∧ 0 ≤ x3 ∧ x3 ≤ 999 ∧ σ 5 0 3 < 9) → Q (-1) σ) : wp_X11_spur σ x1 x2 x3 Q := by
  simp (decide := true) only [rs_ne, rs_fn, upj_eq, upj_ne, up_eq, up_ne, ra_ne, ra_fn, upr_eq, upr_ne, not_false_eq_true, ne_eq, wp_X11_spur, wp_X5_addSpur, forall_eq]
  repeat' first
    | with_reducible assumption
    | with_reducible rfl
    | with_reducible exact True.intro
    | (with_reducible exact Or.inl rfl)
    | (with_reducible exact Or.inr rfl)
    | (apply inR_i <;> decide)
    | with_reducible apply wi_x
    | with_reducible apply wi_m
    | with_reducible apply And.intro
    | (intro σ9 e9; subst e9)
    | intro _
  all_goals first
    | omega
    | (exfalso; omega)
    | (constructor <;> omega)
    | (exact q1 (by omega) _ (by omega))
    | (exact q0 (by omega))
theorem sm_spur {σ : St} {x1 x2 x3 : Int} {Q : Int → St → Prop} (h1 : inR x1) (h2 : inR x2) (h3 : inR x3) (f1 : 0 ≤ σ 12 0 82) (f2 : σ 12 0 82 ≤ 9) (f3 : inR (σ 12 0 82)) (q1 : 1 ≤ x1 ∧ 1 ≤ x2 ∧ x2 ≤ 50 ∧ 0 ≤ x3 ∧ x3 ≤ 999 ∧ σ 12 0 82 < 9 → ∀ r : Int, r = σ 12 0 82 → Q r (st (st (st (st (st σ 12 0 0 0) 142 0 (Int.toNat (σ 12 0 82)) x1) 143 0 (Int.toNat (σ 12 0 82)) x2) 144 0 (Int.toNat (σ 12 0 82)) x3) 12 0 82 (σ 12 0 82 + 1))) (q0 : ¬ (1 ≤ x1 ∧ 1 ≤ x2 ∧ x2 ≤ 50 ∧ 0 ≤ x3 ∧ x3 ≤ 999 ∧ σ 12 0 82 < 9) → Q (-1) (st σ 12 0 0 0)) : wp_X12_spur σ x1 x2 x3 Q := by
  unfold wp_X12_spur
  intro τ eτ
  have g82 : τ 12 0 82 = σ 12 0 82 := by rw [eτ, rs_eq, up_ne (by decide)]
  rw [← eτ] at q1 q0
  try simp only [← g82] at q1 q0 f1 f2 f3
  clear eτ g82
  try simp (decide := true) only [rs_ne, rs_fn, upj_eq, upj_ne, up_eq, up_ne, ra_ne, ra_fn, upr_eq, upr_ne, not_false_eq_true, ne_eq, forall_eq]
  repeat' first
    | with_reducible assumption
    | with_reducible rfl
    | with_reducible exact True.intro
    | (with_reducible exact Or.inl rfl)
    | (with_reducible exact Or.inr rfl)
    | (apply inR_i <;> decide)
    | with_reducible apply wi_x
    | with_reducible apply wi_m
    | with_reducible apply And.intro
    | (intro σ9 e9; subst e9)
    | intro _
  all_goals first
    | omega
    | (exfalso; omega)
    | (constructor <;> omega)
    | (exact q1 (by omega) _ (by omega))
    | (exact q0 (by omega))
theorem I_spur_add {n n2 : Int} {a b c r a2 b2 c2 r2 sa sb sc : Nat → Int} {x y z : Int} (h : I_spur n n2 a b c r a2 b2 c2 r2 sa sb sc) (h9 : n < 9) (hx : 1 ≤ x) (hx2 : x < 2147483648) (hy : 1 ≤ y) (hy2 : y ≤ 50) (hz : 0 ≤ z) (hz2 : z ≤ 999) : I_spur (n + 1) (n2 + 1) (up a n.toNat x) (up b n.toNat y) (up c n.toNat z) r (up a2 n2.toNat x) (up b2 n2.toNat y) (up c2 n2.toNat z) r2 sa sb sc := by
  obtain ⟨⟨s1, s2, s3⟩, ⟨rfl, rfl, rfl, rfl⟩, s6, s7, s8⟩ := h
  subst s1
  refine ⟨⟨rfl, by omega, by omega⟩, ⟨rfl, rfl, rfl, rfl⟩, fun i hi => ?_, s7, s8⟩
  by_cases q : i = n2.toNat
  · rw [q, up_eq, up_eq, up_eq]
    omega
  · rw [up_ne q, up_ne q, up_ne q]
    exact s6 i (by omega)
theorem I_ord_add {mn mn2 sk sk2 : Int} {t u l p s d t2 u2 l2 p2 s2 d2 : Nat → Int} {x1 x2 x3 x4 x5 : Int} (h : I_ord mn mn2 sk sk2 t u l p s d t2 u2 l2 p2 s2 d2) (h9 : mn < 30) (g1 : 1 ≤ x1 ∧ x1 ≤ 12) (g2 : 2 ≤ x2 ∧ x2 ≤ 6) (g3 : 1 ≤ x3 ∧ x3 ≤ 99) (g4 : 1 ≤ x4 ∧ x4 ≤ 99) (g5 : 0 ≤ x5 ∧ x5 ≤ 3999) : I_ord (mn + 1) (mn2 + 1) sk sk2 (up t mn.toNat x1) (up u mn.toNat x2) (up l mn.toNat x3) (up p mn.toNat x4) (up s mn.toNat x5) (up d mn.toNat (-1)) (up t2 mn2.toNat x1) (up u2 mn2.toNat x2) (up l2 mn2.toNat x3) (up p2 mn2.toNat x4) (up s2 mn2.toNat x5) (up d2 mn2.toNat (-1)) := by
  obtain ⟨⟨s1, s2, s3, s4⟩, ⟨rfl, rfl, rfl, rfl, rfl, rfl⟩, s6⟩ := h
  subst s1
  refine ⟨⟨rfl, by omega, by omega, s4⟩, ⟨rfl, rfl, rfl, rfl, rfl, rfl⟩, fun i hi => ?_⟩
  by_cases q : i = mn2.toNat
  · rw [q, up_eq, up_eq, up_eq, up_eq, up_eq, up_eq]
    omega
  · rw [up_ne q, up_ne q, up_ne q, up_ne q, up_ne q, up_ne q]
    exact s6 i (by omega)
theorem op_spur {n : Nat} {σ : St} {x1 x2 x3 : Int} (hI : Inv n σ) (h1 : inR x1) (h2 : inR x2) (h3 : inR x3) : wp_X11_spur σ x1 x2 x3 (fun r σ1 => wp_X12_spur σ1 x1 x2 x3 (fun r2 σ2 => r2 = r ∧ Inv (n + 1) σ2)) := by
  have hI0 := hI
  obtain ⟨a_sky, a_land, a_price, a_ints, a_logA, a_logB, a_live, a_lying, a_ways, a_crews, a_dbl, a_tape, a_law, a_ord, a_spur, a_cuts, a_cru, a_kf, a_tn⟩ := hI
  obtain ⟨⟨s1, s2, s3⟩, -⟩ := id a_spur
  have u1 := h1.2
  refine sx_spur h1 h2 h3 s2 s3 ⟨by omega, by omega⟩ (fun hc r9 e9 => ?_) (fun hc => ?_)
  · obtain ⟨τ, eτ⟩ : ∃ τ : St, τ = (st (st (st (st σ 39 0 (Int.toNat (σ 5 0 3)) x1) 40 0 (Int.toNat (σ 5 0 3)) x2) 41 0 (Int.toNat (σ 5 0 3)) x3) 5 0 3 (σ 5 0 3 + 1)) := ⟨_, rfl⟩
    rw [← eτ]
    have q1 : τ 12 0 82 = σ 12 0 82 := by rw [eτ, rs_ne (by decide), rs_ne (by decide), rs_ne (by decide), rs_ne (by decide)]
    refine sm_spur h1 h2 h3 (by omega) (by omega) ⟨by omega, by omega⟩ (fun hd r8 e8 => ⟨by omega, ?_⟩) (fun hd => absurd (by omega) hd)
    rw [eτ]
    unfold Inv
    simp (decide := true) only [rs_ne, rs_fn, upj_eq, upj_ne, up_eq, up_ne, ra_ne, ra_fn, upr_eq, upr_ne, not_false_eq_true, ne_eq]
    refine ⟨?_, ?_, ?_, ?_, ?_, ?_, ?_, ?_, ?_, ?_, ?_, ?_, ?_, ?_, ?_, ?_, ?_, ?_, ?_⟩
    · exact a_sky
    · exact a_land
    · exact a_price
    · exact I_ints_up a_ints
    · exact a_logA
    · exact a_logB
    · exact a_live
    · exact a_lying
    · exact a_ways
    · exact a_crews
    · exact a_dbl
    · exact a_tape
    · exact a_law
    · exact a_ord
    · exact I_spur_add a_spur (by omega) (by omega) (by omega) (by omega) (by omega) (by omega) (by omega)
    · exact a_cuts
    · exact a_cru
    · exact a_kf
    · exact a_tn
  · refine sm_spur h1 h2 h3 (by omega) (by omega) ⟨by omega, by omega⟩ (fun hd => absurd (by omega) hc) (fun hd => ⟨rfl, Inv_t hI0⟩)
theorem sx_order {σ : St} {x1 x2 x3 x4 x5 : Int} {Q : Int → St → Prop} (h1 : inR x1) (h2 : inR x2) (h3 : inR x3) (h4 : inR x4) (h5 : inR x5) (f1 : 0 ≤ σ 6 0 6) (f2 : σ 6 0 6 ≤ 30) (f3 : inR (σ 6 0 6)) (f4 : inR (σ 7 0 3)) (q1 : 1 ≤ x1 ∧ x1 ≤ 12 ∧ 2 ≤ x2 ∧ x2 ≤ 6 ∧ 1 ≤ x3 ∧ x3 ≤ 99 ∧ 1 ≤ x4 ∧ x4 ≤ 99 ∧ σ 7 0 3 ≤ x5 ∧ x5 ≤ 3999 ∧ σ 6 0 6 < 30 → ∀ r : Int, r = σ 6 0 6 → Q r (st (st (st (st (st (st (st σ 55 0 (Int.toNat (σ 6 0 6)) x1) 56 0 (Int.toNat (σ 6 0 6)) x2) 57 0 (Int.toNat (σ 6 0 6)) x3) 58 0 (Int.toNat (σ 6 0 6)) x4) 59 0 (Int.toNat (σ 6 0 6)) x5) 60 0 (Int.toNat (σ 6 0 6)) (-1)) 6 0 6 (σ 6 0 6 + 1))) (q0 : ¬ (1 ≤ x1 ∧ x1 ≤ 12 ∧ 2 ≤ x2 ∧ x2 ≤ 6 ∧ 1 ≤ x3 ∧ x3 ≤ 99 ∧ 1 ≤ x4 ∧ x4 ≤ 99 ∧ σ 7 0 3 ≤ x5 ∧ x5 ≤ 3999 ∧ σ 6 0 6 < 30) → Q (-1) σ) : wp_X11_order σ x1 x2 x3 x4 x5 Q := by
  simp (decide := true) only [rs_ne, rs_fn, upj_eq, upj_ne, up_eq, up_ne, ra_ne, ra_fn, upr_eq, upr_ne, not_false_eq_true, ne_eq, wp_X11_order, wp_X6_add, forall_eq]
  repeat' first
    | with_reducible assumption
    | with_reducible rfl
    | with_reducible exact True.intro
    | (with_reducible exact Or.inl rfl)
    | (with_reducible exact Or.inr rfl)
    | (apply inR_i <;> decide)
    | with_reducible apply wi_x
    | with_reducible apply wi_m
    | with_reducible apply And.intro
    | (intro σ9 e9; subst e9)
    | intro _
  all_goals first
    | omega
    | (exfalso; omega)
    | (constructor <;> omega)
    | (exact q1 (by omega) _ (by omega))
    | (exact q0 (by omega))
theorem sm_order {σ : St} {x1 x2 x3 x4 x5 : Int} {Q : Int → St → Prop} (h1 : inR x1) (h2 : inR x2) (h3 : inR x3) (h4 : inR x4) (h5 : inR x5) (f1 : 0 ≤ σ 12 0 71) (f2 : σ 12 0 71 ≤ 30) (f3 : inR (σ 12 0 71)) (f4 : inR (σ 12 0 1)) (q1 : 1 ≤ x1 ∧ x1 ≤ 12 ∧ 2 ≤ x2 ∧ x2 ≤ 6 ∧ 1 ≤ x3 ∧ x3 ≤ 99 ∧ 1 ≤ x4 ∧ x4 ≤ 99 ∧ σ 12 0 1 ≤ x5 ∧ x5 ≤ 3999 ∧ σ 12 0 71 < 30 → ∀ r : Int, r = σ 12 0 71 → Q r (st (st (st (st (st (st (st (st σ 12 0 0 0) 133 0 (Int.toNat (σ 12 0 71)) x1) 134 0 (Int.toNat (σ 12 0 71)) x2) 135 0 (Int.toNat (σ 12 0 71)) x3) 136 0 (Int.toNat (σ 12 0 71)) x4) 137 0 (Int.toNat (σ 12 0 71)) x5) 138 0 (Int.toNat (σ 12 0 71)) (-1)) 12 0 71 (σ 12 0 71 + 1))) (q0 : ¬ (1 ≤ x1 ∧ x1 ≤ 12 ∧ 2 ≤ x2 ∧ x2 ≤ 6 ∧ 1 ≤ x3 ∧ x3 ≤ 99 ∧ 1 ≤ x4 ∧ x4 ≤ 99 ∧ σ 12 0 1 ≤ x5 ∧ x5 ≤ 3999 ∧ σ 12 0 71 < 30) → Q (-1) (st σ 12 0 0 0)) : wp_X12_order σ x1 x2 x3 x4 x5 Q := by
  unfold wp_X12_order
  intro τ eτ
  have g71 : τ 12 0 71 = σ 12 0 71 := by rw [eτ, rs_eq, up_ne (by decide)]
  have g1 : τ 12 0 1 = σ 12 0 1 := by rw [eτ, rs_eq, up_ne (by decide)]
  rw [← eτ] at q1 q0
  try simp only [← g71] at q1 q0 f1 f2 f3 f4
  try simp only [← g1] at q1 q0 f1 f2 f3 f4
  clear eτ g71 g1
  try simp (decide := true) only [rs_ne, rs_fn, upj_eq, upj_ne, up_eq, up_ne, ra_ne, ra_fn, upr_eq, upr_ne, not_false_eq_true, ne_eq, forall_eq]
  repeat' first
    | with_reducible assumption
    | with_reducible rfl
    | with_reducible exact True.intro
    | (with_reducible exact Or.inl rfl)
    | (with_reducible exact Or.inr rfl)
    | (apply inR_i <;> decide)
    | with_reducible apply wi_x
    | with_reducible apply wi_m
    | with_reducible apply And.intro
    | (intro σ9 e9; subst e9)
    | intro _
  all_goals first
    | omega
    | (exfalso; omega)
    | (constructor <;> omega)
    | (exact q1 (by omega) _ (by omega))
    | (exact q0 (by omega))
theorem op_order {n : Nat} {σ : St} {x1 x2 x3 x4 x5 : Int} (hI : Inv n σ) (h1 : inR x1) (h2 : inR x2) (h3 : inR x3) (h4 : inR x4) (h5 : inR x5) : wp_X11_order σ x1 x2 x3 x4 x5 (fun r σ1 => wp_X12_order σ1 x1 x2 x3 x4 x5 (fun r2 σ2 => r2 = r ∧ Inv (n + 1) σ2)) := by
  have hI0 := hI
  obtain ⟨a_sky, a_land, a_price, a_ints, a_logA, a_logB, a_live, a_lying, a_ways, a_crews, a_dbl, a_tape, a_law, a_ord, a_spur, a_cuts, a_cru, a_kf, a_tn⟩ := hI
  obtain ⟨⟨s1, s2, s3, s4⟩, -⟩ := id a_ord
  obtain ⟨⟨k1, k2, k3⟩, k4, -⟩ := id a_sky
  refine sx_order h1 h2 h3 h4 h5 s2 s3 ⟨by omega, by omega⟩ ⟨by omega, by omega⟩ (fun hc r9 e9 => ?_) (fun hc => ?_)
  · obtain ⟨τ, eτ⟩ : ∃ τ : St, τ = (st (st (st (st (st (st (st σ 55 0 (Int.toNat (σ 6 0 6)) x1) 56 0 (Int.toNat (σ 6 0 6)) x2) 57 0 (Int.toNat (σ 6 0 6)) x3) 58 0 (Int.toNat (σ 6 0 6)) x4) 59 0 (Int.toNat (σ 6 0 6)) x5) 60 0 (Int.toNat (σ 6 0 6)) (-1)) 6 0 6 (σ 6 0 6 + 1)) := ⟨_, rfl⟩
    rw [← eτ]
    have q0 : τ 12 = σ 12 := by rw [eτ, rs_ne (by decide), rs_ne (by decide), rs_ne (by decide), rs_ne (by decide), rs_ne (by decide), rs_ne (by decide), rs_ne (by decide)]
    have q1 : τ 12 0 71 = σ 12 0 71 := by rw [q0]
    have q2 : τ 12 0 1 = σ 12 0 1 := by rw [q0]
    refine sm_order h1 h2 h3 h4 h5 (by omega) (by omega) ⟨by omega, by omega⟩ ⟨by omega, by omega⟩ (fun hd r8 e8 => ⟨by omega, ?_⟩) (fun hd => absurd (by omega) hd)
    rw [eτ]
    unfold Inv
    simp (decide := true) only [rs_ne, rs_fn, upj_eq, upj_ne, up_eq, up_ne, ra_ne, ra_fn, upr_eq, upr_ne, not_false_eq_true, ne_eq]
    refine ⟨?_, ?_, ?_, ?_, ?_, ?_, ?_, ?_, ?_, ?_, ?_, ?_, ?_, ?_, ?_, ?_, ?_, ?_, ?_⟩
    · exact a_sky
    · exact a_land
    · exact a_price
    · exact I_ints_up a_ints
    · exact a_logA
    · exact a_logB
    · exact a_live
    · exact a_lying
    · exact a_ways
    · exact a_crews
    · exact a_dbl
    · exact a_tape
    · exact a_law
    · exact I_ord_add a_ord (by omega) (by omega) (by omega) (by omega) (by omega) (by omega)
    · exact a_spur
    · exact a_cuts
    · exact a_cru
    · exact a_kf
    · exact a_tn
  · refine sm_order h1 h2 h3 h4 h5 (by omega) (by omega) ⟨by omega, by omega⟩ ⟨by omega, by omega⟩ (fun hd => absurd (by omega) hc) (fun hd => ⟨rfl, Inv_t hI0⟩)
