/-! calls that ask for a log, a way, a crew -/
theorem logAt_x {σ : St} {x1 : Int} {Q : Option Nat → St → Prop} (hI : I_live (σ 11 0 4) (σ 12 0 17) (σ 77 0) (σ 50 4) (σ 50 5)) (hx : inR x1) (q1 : 0 ≤ x1 → x1 < σ 11 0 4 → Q (some x1.toNat) σ) (q0 : ¬ (0 ≤ x1 ∧ x1 < σ 11 0 4) → Q none σ) : wp_X11_logAt σ x1 Q := by
  obtain ⟨v1, v2, vv, v4⟩ := hI
  unfold wp_X11_logAt
  refine wi_x hx ⟨by decide, by decide⟩ ⟨by omega, by omega⟩ (fun a b => ?_) (fun a => ?_)
  · have l := vv x1.toNat (by omega)
    exact ⟨⟨by decide, by decide⟩, fun c => absurd c (by decide), fun _ => ⟨a, by omega, fun c => absurd c l.1, fun _ _ => q1 a (by omega)⟩⟩
  · exact ⟨⟨by decide, by decide⟩, fun _ => q0 (by omega), fun c => absurd rfl c⟩
theorem wayAt_x {σ : St} {x1 : Int} {Q : Option Nat → St → Prop} (hI : I_ways (σ 11 0 6) (σ 12 0 53) (σ 10) (σ 78 0) (σ 50 10) (σ 120 0) (σ 121 0) (σ 122 0) (σ 123 0) (σ 124 0)) (hx : inR x1) (q1 : 0 ≤ x1 → x1 < σ 11 0 6 → Q (some x1.toNat) σ) (q0 : ¬ (0 ≤ x1 ∧ x1 < σ 11 0 6) → Q none σ) : wp_X11_wayAt σ x1 Q := by
  obtain ⟨⟨v1, v2, v3⟩, vv, v4⟩ := hI
  unfold wp_X11_wayAt
  refine wi_x hx ⟨by decide, by decide⟩ ⟨by omega, by omega⟩ (fun a b => ?_) (fun a => ?_)
  · have l := vv x1.toNat (by omega)
    exact ⟨⟨by decide, by decide⟩, fun c => absurd c (by decide), fun _ => ⟨a, by omega, fun c => absurd c l.1.1, fun _ _ => q1 a (by omega)⟩⟩
  · exact ⟨⟨by decide, by decide⟩, fun _ => q0 (by omega), fun c => absurd rfl c⟩
theorem crewAt_x {σ : St} {x1 : Int} {Q : Option Nat → St → Prop} (hI : I_crews (σ 11 0 11) (σ 12 0 60) (σ 11 0 4) (σ 7 0 3) (σ 1) (σ 79 0) (σ 50 1) (σ 125 0) (σ 126 0) (σ 127 0) (σ 128 0) (σ 129 0)) (hx : inR x1) (q1 : 0 ≤ x1 → x1 < σ 11 0 11 → Q (some x1.toNat) σ) (q0 : ¬ (0 ≤ x1 ∧ x1 < σ 11 0 11) → Q none σ) : wp_X11_crewAt σ x1 Q := by
  obtain ⟨⟨v1, v2, v3⟩, vv, v4⟩ := hI
  unfold wp_X11_crewAt
  refine wi_x hx ⟨by decide, by decide⟩ ⟨by omega, by omega⟩ (fun a b => ?_) (fun a => ?_)
  · have l := vv x1.toNat (by omega)
    exact ⟨⟨by decide, by decide⟩, fun c => absurd c (by decide), fun _ => ⟨a, by omega, fun c => absurd c l.1.1, fun _ _ => q1 a (by omega)⟩⟩
  · exact ⟨⟨by decide, by decide⟩, fun _ => q0 (by omega), fun c => absurd rfl c⟩
theorem j_max {σ : St} {a b : Int} {Q : Int → St → Prop} (ha : inR a) (hb : inR b) (q : Q (max a b) σ) : wp_J9_max_7cf53 σ a b Q := by
  refine ⟨ha, hb, fun c => ?_, fun c => ?_⟩
  · rw [show max a b = b by omega] at q
    exact q
  · rw [show max a b = a by omega] at q
    exact q
theorem j_min {σ : St} {a b : Int} {Q : Int → St → Prop} (ha : inR a) (hb : inR b) (q : Q (min a b) σ) : wp_J9_min_7cf53 σ a b Q := by
  refine ⟨ha, hb, fun c => ?_, fun c => ?_⟩
  · rw [show min a b = b by omega] at q
    exact q
  · rw [show min a b = a by omega] at q
    exact q
theorem mul_b {a b A B : Int} (h1 : 0 ≤ a) (h2 : a ≤ A) (h3 : 0 ≤ b) (h4 : b ≤ B) : 0 ≤ a * b ∧ a * b ≤ A * B := ⟨Int.mul_nonneg h1 h3, Int.mul_le_mul h2 h4 h3 (by omega)⟩
/-- what a log is scaled at -/
def scv (w u r : Int) : Int := if r = 1 then (w * w * u).tdiv 24 else ((max 0 (w - 4)) * (max 0 (w - 4)) * u).tdiv 16
theorem scv_b {w u r : Int} (h1 : 1 ≤ w) (h2 : w ≤ 32) (h3 : 2 ≤ u) (h4 : u ≤ 6) : 0 ≤ scv w u r ∧ scv w u r ≤ 294 := by
  unfold scv
  split
  · have e := mul_b (a := w) (b := w) (A := 32) (B := 32) (by omega) h2 (by omega) h2
    have e2 := mul_b (a := w * w) (b := u) (A := 1024) (B := 6) e.1 (by omega) (by omega) h4
    rw [Int.tdiv_eq_ediv_of_nonneg e2.1]
    omega
  · have e := mul_b (a := max 0 (w - 4)) (b := max 0 (w - 4)) (A := 28) (B := 28) (by omega) (by omega) (by omega) (by omega)
    have e2 := mul_b (a := max 0 (w - 4) * max 0 (w - 4)) (b := u) (A := 784) (B := 6) e.1 (by omega) (by omega) h4
    rw [Int.tdiv_eq_ediv_of_nonneg e2.1]
    omega
theorem sx_scaleBy {σ : St} {j : Nat} {x1 : Int} {Q : Int → St → Prop} (hx : inR x1) (hl : σ 50 4 j ≠ 0) (h1 : 1 ≤ σ 4 j 2) (h2 : σ 4 j 2 ≤ 32) (h3 : 2 ≤ σ 4 j 1) (h4 : σ 4 j 1 ≤ 6) (q : Q (scv (σ 4 j 2) (σ 4 j 1) x1) σ) : wp_X4_scaleBy σ j x1 Q := by
  unfold scv at q
  refine ⟨hx, fun c => ⟨hl, j_max ⟨by decide, by decide⟩ ⟨by omega, by omega⟩ ⟨hl, ?_, ?_⟩⟩, fun c => ⟨hl, hl, hl, ?_, ?_⟩⟩
  · have e := mul_b (a := max 0 (σ 4 j 2 - 4)) (b := max 0 (σ 4 j 2 - 4)) (A := 28) (B := 28) (by omega) (by omega) (by omega) (by omega)
    have e2 := mul_b (a := max 0 (σ 4 j 2 - 4) * max 0 (σ 4 j 2 - 4)) (b := σ 4 j 1) (A := 784) (B := 6) e.1 (by omega) (by omega) h4
    exact ⟨by omega, by omega⟩
  · rw [if_neg c] at q
    exact q
  · have e := mul_b (a := σ 4 j 2) (b := σ 4 j 2) (A := 32) (B := 32) (by omega) h2 (by omega) h2
    have e2 := mul_b (a := σ 4 j 2 * σ 4 j 2) (b := σ 4 j 1) (A := 1024) (B := 6) e.1 (by omega) (by omega) h4
    exact ⟨by omega, by omega⟩
  · rw [if_pos c] at q
    exact q
theorem sm_scaleOf {σ : St} {x1 x2 : Int} {Q : Int → St → Prop} (hx : inR x2) (hl : 0 ≤ x1) (hl2 : x1 < 300) (h1 : 1 ≤ σ 98 0 x1.toNat) (h2 : σ 98 0 x1.toNat ≤ 32) (h3 : 2 ≤ σ 97 0 x1.toNat) (h4 : σ 97 0 x1.toNat ≤ 6) (q : Q (scv (σ 98 0 x1.toNat) (σ 97 0 x1.toNat) x2) σ) : wp_X12_scaleOf σ x1 x2 Q := by
  unfold scv at q
  unfold wp_X12_scaleOf wp_X12_scaleOf_36 wp_X12_scaleOf_59
  have k1 : ∀ z : Int, 0 ≤ z → z ≤ 32 → inR ((z * z) * σ 97 0 x1.toNat) := fun z z1 z2 => by
    have e := mul_b (a := z) (b := z) (A := 32) (B := 32) z1 z2 z1 z2
    have e2 := mul_b (a := z * z) (b := σ 97 0 x1.toNat) (A := 1024) (B := 6) e.1 (by omega) (by omega) h4
    exact ⟨by omega, by omega⟩
  refine ⟨hx, fun c => ⟨hl, hl2, ⟨by omega, by omega⟩, fun d => ⟨hl, hl2, hx, fun _ => ⟨k1 0 (by omega) (by omega), ⟨by decide, by decide⟩, by decide, by decide, ?_⟩, fun d2 => absurd d2 c⟩, fun d => ⟨hl, hl2, hl, hl2, hx, fun _ => ⟨k1 _ (by omega) (by omega), ⟨by decide, by decide⟩, by decide, by decide, ?_⟩, fun d2 => absurd d2 c⟩⟩, fun c => ⟨hl, hl2, hl, hl2, hx, fun d2 => absurd c d2, fun _ => ⟨k1 _ (by omega) (by omega), ⟨by decide, by decide⟩, by decide, by decide, ?_⟩⟩⟩
  · rw [if_neg c, show max 0 (σ 98 0 x1.toNat - 4) = 0 by omega] at q
    exact q
  · rw [if_neg c, show max 0 (σ 98 0 x1.toNat - 4) = σ 98 0 x1.toNat - 4 by omega] at q
    exact q
  · rw [if_pos c] at q
    exact q
theorem sx_dam {σ : St} {x1 : Int} {Q : Int → St → Prop} (h1 : inR x1) (f1 : 0 ≤ σ 11 0 6) (f2 : σ 11 0 6 ≤ 40) (f3 : 0 ≤ σ 7 0 3 ∧ σ 7 0 3 ≤ 3999) (f4 : 0 ≤ x1 ∧ x1 < σ 11 0 6 → ¬ σ 78 0 x1.toNat = 0 ∧ ¬ σ 50 10 x1.toNat = 0 ∧ 0 ≤ σ 10 x1.toNat 0 ∧ σ 10 x1.toNat 0 ≤ 4 ∧ 0 ≤ σ 10 x1.toNat 3 ∧ σ 10 x1.toNat 3 ≤ 1 ∧ -1 ≤ σ 10 x1.toNat 4 ∧ σ 10 x1.toNat 4 ≤ 3999) (q1 : 0 ≤ x1 ∧ x1 < σ 11 0 6 ∧ σ 10 x1.toNat 0 = 4 ∧ ¬ σ 10 x1.toNat 4 = σ 7 0 3 → ∀ r : Int, r = 1 → Q r (st σ 10 x1.toNat 4 (σ 7 0 3))) (q0 : ¬ (0 ≤ x1 ∧ x1 < σ 11 0 6 ∧ σ 10 x1.toNat 0 = 4 ∧ ¬ σ 10 x1.toNat 4 = σ 7 0 3) → Q 0 σ) : wp_X11_dam σ x1 Q := by
  simp (decide := true) only [rs_ne, rs_fn, upj_eq, upj_ne, up_eq, up_ne, ra_ne, ra_fn, upr_eq, upr_ne, not_false_eq_true, ne_eq, wp_X11_dam, wp_X11_wayAt, forall_eq]
  repeat' first
    | with_reducible assumption
    | with_reducible rfl
    | with_reducible exact True.intro
    | (with_reducible exact Or.inl rfl)
    | (with_reducible exact Or.inr rfl)
    | (apply inR_i <;> decide)
    | with_reducible apply wi_x
    | with_reducible apply wi_m
    | with_reducible apply And.intro
    | (intro σ9 e9; subst e9)
    | intro _
  all_goals first
    | omega
    | (exfalso; omega)
    | (constructor <;> omega)
    | (exact q1 (by omega) _ (by omega))
    | (exact q0 (by omega))
theorem sm_dam {σ : St} {x1 : Int} {Q : Int → St → Prop} (h1 : inR x1) (f1 : 0 ≤ σ 12 0 53) (f2 : σ 12 0 53 ≤ 40) (f3 : 0 ≤ σ 12 0 1 ∧ σ 12 0 1 ≤ 3999) (f4 : 0 ≤ x1 ∧ x1 < σ 12 0 53 → 0 ≤ σ 120 0 x1.toNat ∧ σ 120 0 x1.toNat ≤ 4 ∧ 0 ≤ σ 123 0 x1.toNat ∧ σ 123 0 x1.toNat ≤ 1 ∧ -1 ≤ σ 124 0 x1.toNat ∧ σ 124 0 x1.toNat ≤ 3999) (q1 : 0 ≤ x1 ∧ x1 < σ 12 0 53 ∧ σ 120 0 x1.toNat = 4 ∧ ¬ σ 124 0 x1.toNat = σ 12 0 1 → ∀ r : Int, r = 1 → Q r (st (st σ 12 0 0 0) 124 0 x1.toNat (σ 12 0 1))) (q0 : ¬ (0 ≤ x1 ∧ x1 < σ 12 0 53 ∧ σ 120 0 x1.toNat = 4 ∧ ¬ σ 124 0 x1.toNat = σ 12 0 1) → Q 0 (st σ 12 0 0 0)) : wp_X12_dam σ x1 Q := by
  unfold wp_X12_dam
  intro τ eτ
  have g53 : τ 12 0 53 = σ 12 0 53 := by rw [eτ, rs_eq, up_ne (by decide)]
  have g1 : τ 12 0 1 = σ 12 0 1 := by rw [eτ, rs_eq, up_ne (by decide)]
  have b120 : τ 120 = σ 120 := by rw [eτ, rs_ne (by decide)]
  have b123 : τ 123 = σ 123 := by rw [eτ, rs_ne (by decide)]
  have b124 : τ 124 = σ 124 := by rw [eτ, rs_ne (by decide)]
  rw [← eτ] at q1 q0
  try simp only [← g53] at q1 q0 f1 f2 f3 f4
  try simp only [← g1] at q1 q0 f1 f2 f3 f4
  try simp only [← b120] at q1 q0 f1 f2 f3 f4
  try simp only [← b123] at q1 q0 f1 f2 f3 f4
  try simp only [← b124] at q1 q0 f1 f2 f3 f4
  clear eτ b120 b123 b124 g53 g1
  try simp (decide := true) only [rs_ne, rs_fn, upj_eq, upj_ne, up_eq, up_ne, ra_ne, ra_fn, upr_eq, upr_ne, not_false_eq_true, ne_eq, wp_X12_isWay, forall_eq]
  repeat' first
    | with_reducible assumption
    | with_reducible rfl
    | with_reducible exact True.intro
    | (with_reducible exact Or.inl rfl)
    | (with_reducible exact Or.inr rfl)
    | (apply inR_i <;> decide)
    | with_reducible apply wi_x
    | with_reducible apply wi_m
    | with_reducible apply And.intro
    | (intro σ9 e9; subst e9)
    | intro _
  all_goals first
    | omega
    | (exfalso; omega)
    | (constructor <;> omega)
    | (exact q1 (by omega) _ (by omega))
    | (exact q0 (by omega))
theorem I_ways_lay {wc wc2 v : Int} {W : Nat → Nat → Int} {f78 a10 k2 f2 t2 l2 d2 : Nat → Int} {j : Nat} (h : I_ways wc wc2 W f78 a10 k2 f2 t2 l2 d2) (hj : (j : Int) < wc) (hv : 0 ≤ v ∧ v ≤ 1) : I_ways wc wc2 (upj W j 3 v) f78 a10 k2 f2 t2 (up l2 j v) d2 := by
  obtain ⟨h1, h2, h3⟩ := h
  refine ⟨h1, fun i hi => ?_, fun i hi => ?_⟩
  · by_cases q : i = j
    · subst q
      obtain ⟨p1, ⟨e0, e1, e2, e3, e4⟩, p3⟩ := h2 i hi
      rw [upj_eq, up_eq, up_eq, up_ne (by decide), up_ne (by decide), up_ne (by decide), up_ne (by decide)]
      exact ⟨p1, ⟨e0, e1, e2, rfl, e4⟩, by omega⟩
    · rw [upj_ne q, up_ne q]
      exact h2 i hi
  · rw [up_ne (by omega)]
    exact h3 i hi
theorem I_ways_dam {wc wc2 v : Int} {W : Nat → Nat → Int} {f78 a10 k2 f2 t2 l2 d2 : Nat → Int} {j : Nat} (h : I_ways wc wc2 W f78 a10 k2 f2 t2 l2 d2) (hj : (j : Int) < wc) (hv : 0 ≤ v ∧ v ≤ 3999) : I_ways wc wc2 (upj W j 4 v) f78 a10 k2 f2 t2 l2 (up d2 j v) := by
  obtain ⟨h1, h2, h3⟩ := h
  refine ⟨h1, fun i hi => ?_, h3⟩
  by_cases q : i = j
  · subst q
    obtain ⟨p1, ⟨e0, e1, e2, e3, e4⟩, p3⟩ := h2 i hi
    rw [upj_eq, up_eq, up_eq, up_ne (by decide), up_ne (by decide), up_ne (by decide), up_ne (by decide)]
    exact ⟨p1, ⟨e0, e1, e2, e3, rfl⟩, by omega⟩
  · rw [upj_ne q, up_ne q]
    exact h2 i hi
theorem op_dam {n : Nat} {σ : St} {x1 : Int} (hI : Inv n σ) (h1 : inR x1)  : wp_X11_dam σ x1 (fun r σ1 => wp_X12_dam σ1 x1 (fun r2 σ2 => r2 = r ∧ Inv (n + 1) σ2)) := by
  have hI0 := hI
  obtain ⟨a_sky, a_land, a_price, a_ints, a_logA, a_logB, a_live, a_lying, a_ways, a_crews, a_dbl, a_tape, a_law, a_ord, a_spur, a_cuts, a_cru, a_kf, a_tn⟩ := hI
  have v1 := a_ways.1
  obtain ⟨⟨k1, k2, k3⟩, k4, -⟩ := id a_sky
  have fw : 0 ≤ x1 ∧ x1 < σ 11 0 6 → (¬ σ 78 0 x1.toNat = 0 ∧ ¬ σ 50 10 x1.toNat = 0) ∧ (σ 10 x1.toNat 0 = σ 120 0 x1.toNat ∧ σ 10 x1.toNat 1 = σ 121 0 x1.toNat ∧ σ 10 x1.toNat 2 = σ 122 0 x1.toNat ∧ σ 10 x1.toNat 3 = σ 123 0 x1.toNat ∧ σ 10 x1.toNat 4 = σ 124 0 x1.toNat) ∧ (0 ≤ σ 120 0 x1.toNat ∧ σ 120 0 x1.toNat ≤ 4 ∧ 0 ≤ σ 121 0 x1.toNat ∧ σ 121 0 x1.toNat ≤ 63 ∧ 0 ≤ σ 122 0 x1.toNat ∧ σ 122 0 x1.toNat ≤ 63 ∧ 0 ≤ σ 123 0 x1.toNat ∧ σ 123 0 x1.toNat ≤ 1 ∧ -1 ≤ σ 124 0 x1.toNat ∧ σ 124 0 x1.toNat ≤ 3999) := fun hx => a_ways.2.1 x1.toNat (by omega)
  refine sx_dam h1 (by omega) (by omega) (by omega) (fun hx => by have := fw hx; omega) (fun hc r9 e9 => ?_) (fun hc => ?_)
  · obtain ⟨τ, eτ⟩ : ∃ τ : St, τ = (st σ 10 x1.toNat 4 (σ 7 0 3)) := ⟨_, rfl⟩
    rw [← eτ]
    have k12 : τ 12 = σ 12 := by rw [eτ, rs_ne (by decide)]
    have k120 : τ 120 = σ 120 := by rw [eτ, rs_ne (by decide)]
    have k123 : τ 123 = σ 123 := by rw [eτ, rs_ne (by decide)]
    have k124 : τ 124 = σ 124 := by rw [eτ, rs_ne (by decide)]
    refine sm_dam h1 (by simp only [k12]; omega) (by simp only [k12]; omega) (by simp only [k12]; omega) (fun hx => by simp only [k12] at hx; have := fw (by omega); simp only [k120, k123, k124]; omega) (fun hd r8 e8 => ⟨by omega, ?_⟩) (fun hd => absurd (by simp only [k12, k120, k123, k124]; omega) hd)
    rw [eτ]
    unfold Inv
    simp (decide := true) only [rs_ne, rs_fn, upj_eq, upj_ne, up_eq, up_ne, ra_ne, ra_fn, upr_eq, upr_ne, not_false_eq_true, ne_eq]
    refine ⟨?_, ?_, ?_, ?_, ?_, ?_, ?_, ?_, ?_, ?_, ?_, ?_, ?_, ?_, ?_, ?_, ?_, ?_, ?_⟩
    · exact a_sky
    · exact a_land
    · exact a_price
    · exact I_ints_up a_ints
    · exact a_logA
    · exact a_logB
    · exact a_live
    · exact a_lying
    · rw [k2]; exact I_ways_dam a_ways (by omega) (by omega)
    · exact a_crews
    · exact a_dbl
    · exact a_tape
    · exact a_law
    · exact a_ord
    · exact a_spur
    · exact a_cuts
    · exact a_cru
    · exact a_kf
    · exact a_tn
  · refine sm_dam h1 (by omega) (by omega) (by omega) (fun hx => by have := fw (by omega); omega) (fun hd => absurd (by omega) hc) (fun hd => ⟨rfl, Inv_t hI0⟩)
theorem sx_lay0 {σ : St} {x1 : Int} {Q : Int → St → Prop} (h1 : inR x1) (f1 : 0 ≤ σ 11 0 6) (f2 : σ 11 0 6 ≤ 40) (f3 : 0 ≤ σ 7 0 3 ∧ σ 7 0 3 ≤ 3999) (f4 : 0 ≤ x1 ∧ x1 < σ 11 0 6 → ¬ σ 78 0 x1.toNat = 0 ∧ ¬ σ 50 10 x1.toNat = 0 ∧ 0 ≤ σ 10 x1.toNat 0 ∧ σ 10 x1.toNat 0 ≤ 4 ∧ 0 ≤ σ 10 x1.toNat 3 ∧ σ 10 x1.toNat 3 ≤ 1 ∧ -1 ≤ σ 10 x1.toNat 4 ∧ σ 10 x1.toNat 4 ≤ 3999) (f5 : 0 ≤ σ 11 0 7 ∧ σ 11 0 7 ≤ 100000) (q1 : 0 ≤ x1 ∧ x1 < σ 11 0 6 ∧ σ 10 x1.toNat 0 = 1 ∧ ¬ σ 10 x1.toNat 3 = 0 → ∀ r : Int, r = 1 → Q r (st (st σ 11 0 7 (σ 11 0 7 + 10)) 10 x1.toNat 3 0)) (q0 : ¬ (0 ≤ x1 ∧ x1 < σ 11 0 6 ∧ σ 10 x1.toNat 0 = 1 ∧ ¬ σ 10 x1.toNat 3 = 0) → Q 0 σ) : wp_X11_lay σ x1 0 Q := by
  simp (decide := true) only [rs_ne, rs_fn, upj_eq, upj_ne, up_eq, up_ne, ra_ne, ra_fn, upr_eq, upr_ne, not_false_eq_true, ne_eq, wp_X11_lay, wp_X11_wayAt, wp_X11_lay_43, wp_X11_lay_59, forall_eq]
  repeat' first
    | with_reducible assumption
    | with_reducible rfl
    | with_reducible exact True.intro
    | (with_reducible exact Or.inl rfl)
    | (with_reducible exact Or.inr rfl)
    | (apply inR_i <;> decide)
    | with_reducible apply wi_x
    | with_reducible apply wi_m
    | with_reducible apply And.intro
    | (intro σ9 e9; subst e9)
    | intro _
  all_goals first
    | omega
    | (exfalso; omega)
    | (constructor <;> omega)
    | (exact q1 (by omega) _ (by omega))
    | (exact q0 (by omega))
theorem sm_lay0 {σ : St} {x1 : Int} {Q : Int → St → Prop} (h1 : inR x1) (f1 : 0 ≤ σ 12 0 53) (f2 : σ 12 0 53 ≤ 40) (f3 : 0 ≤ σ 12 0 1 ∧ σ 12 0 1 ≤ 3999) (f4 : 0 ≤ x1 ∧ x1 < σ 12 0 53 → 0 ≤ σ 120 0 x1.toNat ∧ σ 120 0 x1.toNat ≤ 4 ∧ 0 ≤ σ 123 0 x1.toNat ∧ σ 123 0 x1.toNat ≤ 1 ∧ -1 ≤ σ 124 0 x1.toNat ∧ σ 124 0 x1.toNat ≤ 3999) (f5 : 0 ≤ σ 12 0 59 ∧ σ 12 0 59 ≤ 100000) (q1 : 0 ≤ x1 ∧ x1 < σ 12 0 53 ∧ σ 120 0 x1.toNat = 1 ∧ ¬ σ 123 0 x1.toNat = 0 → ∀ r : Int, r = 1 → Q r (st (st (st σ 12 0 0 0) 123 0 x1.toNat 0) 12 0 59 (σ 12 0 59 + 10))) (q0 : ¬ (0 ≤ x1 ∧ x1 < σ 12 0 53 ∧ σ 120 0 x1.toNat = 1 ∧ ¬ σ 123 0 x1.toNat = 0) → Q 0 (st σ 12 0 0 0)) : wp_X12_lay σ x1 0 Q := by
  unfold wp_X12_lay
  intro τ eτ
  have g53 : τ 12 0 53 = σ 12 0 53 := by rw [eτ, rs_eq, up_ne (by decide)]
  have g1 : τ 12 0 1 = σ 12 0 1 := by rw [eτ, rs_eq, up_ne (by decide)]
  have g59 : τ 12 0 59 = σ 12 0 59 := by rw [eτ, rs_eq, up_ne (by decide)]
  have b120 : τ 120 = σ 120 := by rw [eτ, rs_ne (by decide)]
  have b123 : τ 123 = σ 123 := by rw [eτ, rs_ne (by decide)]
  have b124 : τ 124 = σ 124 := by rw [eτ, rs_ne (by decide)]
  rw [← eτ] at q1 q0
  try simp only [← g53] at q1 q0 f1 f2 f3 f4 f5
  try simp only [← g1] at q1 q0 f1 f2 f3 f4 f5
  try simp only [← g59] at q1 q0 f1 f2 f3 f4 f5
  try simp only [← b120] at q1 q0 f1 f2 f3 f4 f5
  try simp only [← b123] at q1 q0 f1 f2 f3 f4 f5
  try simp only [← b124] at q1 q0 f1 f2 f3 f4 f5
  clear eτ b120 b123 b124 g53 g1 g59
  try simp (decide := true) only [rs_ne, rs_fn, upj_eq, upj_ne, up_eq, up_ne, ra_ne, ra_fn, upr_eq, upr_ne, not_false_eq_true, ne_eq, wp_X12_isWay, wp_X12_lay_48, wp_X12_lay_71, forall_eq]
  repeat' first
    | with_reducible assumption
    | with_reducible rfl
    | with_reducible exact True.intro
    | (with_reducible exact Or.inl rfl)
    | (with_reducible exact Or.inr rfl)
    | (apply inR_i <;> decide)
    | with_reducible apply wi_x
    | with_reducible apply wi_m
    | with_reducible apply And.intro
    | (intro σ9 e9; subst e9)
    | intro _
  all_goals first
    | omega
    | (exfalso; omega)
    | (constructor <;> omega)
    | (exact q1 (by omega) _ (by omega))
    | (exact q0 (by omega))
theorem op_lay0 {n : Nat} {σ : St} {x1 : Int} (hI : Inv n σ) (h1 : inR x1) (hn5 : n ≤ 512) : wp_X11_lay σ x1 0 (fun r σ1 => wp_X12_lay σ1 x1 0 (fun r2 σ2 => r2 = r ∧ Inv (n + 1) σ2)) := by
  have hI0 := hI
  obtain ⟨a_sky, a_land, a_price, a_ints, a_logA, a_logB, a_live, a_lying, a_ways, a_crews, a_dbl, a_tape, a_law, a_ord, a_spur, a_cuts, a_cru, a_kf, a_tn⟩ := hI
  have v1 := a_ways.1
  obtain ⟨⟨k1, k2, k3⟩, k4, -⟩ := id a_sky
  have fw : 0 ≤ x1 ∧ x1 < σ 11 0 6 → (¬ σ 78 0 x1.toNat = 0 ∧ ¬ σ 50 10 x1.toNat = 0) ∧ (σ 10 x1.toNat 0 = σ 120 0 x1.toNat ∧ σ 10 x1.toNat 1 = σ 121 0 x1.toNat ∧ σ 10 x1.toNat 2 = σ 122 0 x1.toNat ∧ σ 10 x1.toNat 3 = σ 123 0 x1.toNat ∧ σ 10 x1.toNat 4 = σ 124 0 x1.toNat) ∧ (0 ≤ σ 120 0 x1.toNat ∧ σ 120 0 x1.toNat ≤ 4 ∧ 0 ≤ σ 121 0 x1.toNat ∧ σ 121 0 x1.toNat ≤ 63 ∧ 0 ≤ σ 122 0 x1.toNat ∧ σ 122 0 x1.toNat ≤ 63 ∧ 0 ≤ σ 123 0 x1.toNat ∧ σ 123 0 x1.toNat ≤ 1 ∧ -1 ≤ σ 124 0 x1.toNat ∧ σ 124 0 x1.toNat ≤ 3999) := fun hx => a_ways.2.1 x1.toNat (by omega)
  obtain ⟨⟨i1, i2, i3⟩, i4, i5, i6, i7⟩ := id a_ints
  refine sx_lay0 h1 (by omega) (by omega) (by omega) (fun hx => by have := fw hx; omega) (by omega) (fun hc r9 e9 => ?_) (fun hc => ?_)
  · obtain ⟨τ, eτ⟩ : ∃ τ : St, τ = (st (st σ 11 0 7 (σ 11 0 7 + 10)) 10 x1.toNat 3 0) := ⟨_, rfl⟩
    rw [← eτ]
    have k12 : τ 12 = σ 12 := by rw [eτ, rs_ne (by decide), rs_ne (by decide)]
    have k120 : τ 120 = σ 120 := by rw [eτ, rs_ne (by decide), rs_ne (by decide)]
    have k123 : τ 123 = σ 123 := by rw [eτ, rs_ne (by decide), rs_ne (by decide)]
    have k124 : τ 124 = σ 124 := by rw [eτ, rs_ne (by decide), rs_ne (by decide)]
    refine sm_lay0 h1 (by simp only [k12]; omega) (by simp only [k12]; omega) (by simp only [k12]; omega) (fun hx => by simp only [k12] at hx; have := fw (by omega); simp only [k120, k123, k124]; omega) (by simp only [k12]; omega) (fun hd r8 e8 => ⟨by omega, ?_⟩) (fun hd => absurd (by simp only [k12, k120, k123, k124]; omega) hd)
    rw [eτ]
    unfold Inv
    simp (decide := true) only [rs_ne, rs_fn, upj_eq, upj_ne, up_eq, up_ne, ra_ne, ra_fn, upr_eq, upr_ne, not_false_eq_true, ne_eq]
    refine ⟨?_, ?_, ?_, ?_, ?_, ?_, ?_, ?_, ?_, ?_, ?_, ?_, ?_, ?_, ?_, ?_, ?_, ?_, ?_⟩
    · exact a_sky
    · exact a_land
    · exact a_price
    · exact ⟨⟨by omega, i2, i3⟩, by omega, by omega, by omega, by omega⟩
    · exact a_logA
    · exact a_logB
    · exact a_live
    · exact a_lying
    · exact I_ways_lay a_ways (by omega) (by omega)
    · exact a_crews
    · exact a_dbl
    · exact a_tape
    · exact a_law
    · exact a_ord
    · exact a_spur
    · exact a_cuts
    · exact a_cru
    · exact a_kf
    · exact a_tn
  · refine sm_lay0 h1 (by omega) (by omega) (by omega) (fun hx => by have := fw (by omega); omega) (by omega) (fun hd => absurd (by omega) hc) (fun hd => ⟨rfl, Inv_t hI0⟩)
theorem sx_lay1 {σ : St} {x1 : Int} {Q : Int → St → Prop} (h1 : inR x1) (f1 : 0 ≤ σ 11 0 6) (f2 : σ 11 0 6 ≤ 40) (f3 : 0 ≤ σ 7 0 3 ∧ σ 7 0 3 ≤ 3999) (f4 : 0 ≤ x1 ∧ x1 < σ 11 0 6 → ¬ σ 78 0 x1.toNat = 0 ∧ ¬ σ 50 10 x1.toNat = 0 ∧ 0 ≤ σ 10 x1.toNat 0 ∧ σ 10 x1.toNat 0 ≤ 4 ∧ 0 ≤ σ 10 x1.toNat 3 ∧ σ 10 x1.toNat 3 ≤ 1 ∧ -1 ≤ σ 10 x1.toNat 4 ∧ σ 10 x1.toNat 4 ≤ 3999) (f5 : 0 ≤ σ 11 0 7 ∧ σ 11 0 7 ≤ 100000) (q1 : 0 ≤ x1 ∧ x1 < σ 11 0 6 ∧ σ 10 x1.toNat 0 = 1 ∧ ¬ σ 10 x1.toNat 3 = 1 ∧ 10 ≤ σ 11 0 7 → ∀ r : Int, r = 1 → Q r (st (st σ 11 0 7 (σ 11 0 7 + (-10))) 10 x1.toNat 3 1)) (q0 : ¬ (0 ≤ x1 ∧ x1 < σ 11 0 6 ∧ σ 10 x1.toNat 0 = 1 ∧ ¬ σ 10 x1.toNat 3 = 1 ∧ 10 ≤ σ 11 0 7) → Q 0 σ) : wp_X11_lay σ x1 1 Q := by
  simp (decide := true) only [rs_ne, rs_fn, upj_eq, upj_ne, up_eq, up_ne, ra_ne, ra_fn, upr_eq, upr_ne, not_false_eq_true, ne_eq, wp_X11_lay, wp_X11_wayAt, wp_X11_lay_43, wp_X11_lay_59, forall_eq]
  repeat' first
    | with_reducible assumption
    | with_reducible rfl
    | with_reducible exact True.intro
    | (with_reducible exact Or.inl rfl)
    | (with_reducible exact Or.inr rfl)
    | (apply inR_i <;> decide)
    | with_reducible apply wi_x
    | with_reducible apply wi_m
    | with_reducible apply And.intro
    | (intro σ9 e9; subst e9)
    | intro _
  all_goals first
    | omega
    | (exfalso; omega)
    | (constructor <;> omega)
    | (exact q1 (by omega) _ (by omega))
    | (exact q0 (by omega))
theorem sm_lay1 {σ : St} {x1 : Int} {Q : Int → St → Prop} (h1 : inR x1) (f1 : 0 ≤ σ 12 0 53) (f2 : σ 12 0 53 ≤ 40) (f3 : 0 ≤ σ 12 0 1 ∧ σ 12 0 1 ≤ 3999) (f4 : 0 ≤ x1 ∧ x1 < σ 12 0 53 → 0 ≤ σ 120 0 x1.toNat ∧ σ 120 0 x1.toNat ≤ 4 ∧ 0 ≤ σ 123 0 x1.toNat ∧ σ 123 0 x1.toNat ≤ 1 ∧ -1 ≤ σ 124 0 x1.toNat ∧ σ 124 0 x1.toNat ≤ 3999) (f5 : 0 ≤ σ 12 0 59 ∧ σ 12 0 59 ≤ 100000) (q1 : 0 ≤ x1 ∧ x1 < σ 12 0 53 ∧ σ 120 0 x1.toNat = 1 ∧ ¬ σ 123 0 x1.toNat = 1 ∧ 10 ≤ σ 12 0 59 → ∀ r : Int, r = 1 → Q r (st (st (st σ 12 0 0 0) 123 0 x1.toNat 1) 12 0 59 (σ 12 0 59 + (-10)))) (q0 : ¬ (0 ≤ x1 ∧ x1 < σ 12 0 53 ∧ σ 120 0 x1.toNat = 1 ∧ ¬ σ 123 0 x1.toNat = 1 ∧ 10 ≤ σ 12 0 59) → Q 0 (st σ 12 0 0 0)) : wp_X12_lay σ x1 1 Q := by
  unfold wp_X12_lay
  intro τ eτ
  have g53 : τ 12 0 53 = σ 12 0 53 := by rw [eτ, rs_eq, up_ne (by decide)]
  have g1 : τ 12 0 1 = σ 12 0 1 := by rw [eτ, rs_eq, up_ne (by decide)]
  have g59 : τ 12 0 59 = σ 12 0 59 := by rw [eτ, rs_eq, up_ne (by decide)]
  have b120 : τ 120 = σ 120 := by rw [eτ, rs_ne (by decide)]
  have b123 : τ 123 = σ 123 := by rw [eτ, rs_ne (by decide)]
  have b124 : τ 124 = σ 124 := by rw [eτ, rs_ne (by decide)]
  rw [← eτ] at q1 q0
  try simp only [← g53] at q1 q0 f1 f2 f3 f4 f5
  try simp only [← g1] at q1 q0 f1 f2 f3 f4 f5
  try simp only [← g59] at q1 q0 f1 f2 f3 f4 f5
  try simp only [← b120] at q1 q0 f1 f2 f3 f4 f5
  try simp only [← b123] at q1 q0 f1 f2 f3 f4 f5
  try simp only [← b124] at q1 q0 f1 f2 f3 f4 f5
  clear eτ b120 b123 b124 g53 g1 g59
  try simp (decide := true) only [rs_ne, rs_fn, upj_eq, upj_ne, up_eq, up_ne, ra_ne, ra_fn, upr_eq, upr_ne, not_false_eq_true, ne_eq, wp_X12_isWay, wp_X12_lay_48, wp_X12_lay_71, forall_eq]
  repeat' first
    | with_reducible assumption
    | with_reducible rfl
    | with_reducible exact True.intro
    | (with_reducible exact Or.inl rfl)
    | (with_reducible exact Or.inr rfl)
    | (apply inR_i <;> decide)
    | with_reducible apply wi_x
    | with_reducible apply wi_m
    | with_reducible apply And.intro
    | (intro σ9 e9; subst e9)
    | intro _
  all_goals first
    | omega
    | (exfalso; omega)
    | (constructor <;> omega)
    | (exact q1 (by omega) _ (by omega))
    | (exact q0 (by omega))
theorem op_lay1 {n : Nat} {σ : St} {x1 : Int} (hI : Inv n σ) (h1 : inR x1) (hn5 : n ≤ 512) : wp_X11_lay σ x1 1 (fun r σ1 => wp_X12_lay σ1 x1 1 (fun r2 σ2 => r2 = r ∧ Inv (n + 1) σ2)) := by
  have hI0 := hI
  obtain ⟨a_sky, a_land, a_price, a_ints, a_logA, a_logB, a_live, a_lying, a_ways, a_crews, a_dbl, a_tape, a_law, a_ord, a_spur, a_cuts, a_cru, a_kf, a_tn⟩ := hI
  have v1 := a_ways.1
  obtain ⟨⟨k1, k2, k3⟩, k4, -⟩ := id a_sky
  have fw : 0 ≤ x1 ∧ x1 < σ 11 0 6 → (¬ σ 78 0 x1.toNat = 0 ∧ ¬ σ 50 10 x1.toNat = 0) ∧ (σ 10 x1.toNat 0 = σ 120 0 x1.toNat ∧ σ 10 x1.toNat 1 = σ 121 0 x1.toNat ∧ σ 10 x1.toNat 2 = σ 122 0 x1.toNat ∧ σ 10 x1.toNat 3 = σ 123 0 x1.toNat ∧ σ 10 x1.toNat 4 = σ 124 0 x1.toNat) ∧ (0 ≤ σ 120 0 x1.toNat ∧ σ 120 0 x1.toNat ≤ 4 ∧ 0 ≤ σ 121 0 x1.toNat ∧ σ 121 0 x1.toNat ≤ 63 ∧ 0 ≤ σ 122 0 x1.toNat ∧ σ 122 0 x1.toNat ≤ 63 ∧ 0 ≤ σ 123 0 x1.toNat ∧ σ 123 0 x1.toNat ≤ 1 ∧ -1 ≤ σ 124 0 x1.toNat ∧ σ 124 0 x1.toNat ≤ 3999) := fun hx => a_ways.2.1 x1.toNat (by omega)
  obtain ⟨⟨i1, i2, i3⟩, i4, i5, i6, i7⟩ := id a_ints
  refine sx_lay1 h1 (by omega) (by omega) (by omega) (fun hx => by have := fw hx; omega) (by omega) (fun hc r9 e9 => ?_) (fun hc => ?_)
  · obtain ⟨τ, eτ⟩ : ∃ τ : St, τ = (st (st σ 11 0 7 (σ 11 0 7 + (-10))) 10 x1.toNat 3 1) := ⟨_, rfl⟩
    rw [← eτ]
    have k12 : τ 12 = σ 12 := by rw [eτ, rs_ne (by decide), rs_ne (by decide)]
    have k120 : τ 120 = σ 120 := by rw [eτ, rs_ne (by decide), rs_ne (by decide)]
    have k123 : τ 123 = σ 123 := by rw [eτ, rs_ne (by decide), rs_ne (by decide)]
    have k124 : τ 124 = σ 124 := by rw [eτ, rs_ne (by decide), rs_ne (by decide)]
    refine sm_lay1 h1 (by simp only [k12]; omega) (by simp only [k12]; omega) (by simp only [k12]; omega) (fun hx => by simp only [k12] at hx; have := fw (by omega); simp only [k120, k123, k124]; omega) (by simp only [k12]; omega) (fun hd r8 e8 => ⟨by omega, ?_⟩) (fun hd => absurd (by simp only [k12, k120, k123, k124]; omega) hd)
    rw [eτ]
    unfold Inv
    simp (decide := true) only [rs_ne, rs_fn, upj_eq, upj_ne, up_eq, up_ne, ra_ne, ra_fn, upr_eq, upr_ne, not_false_eq_true, ne_eq]
    refine ⟨?_, ?_, ?_, ?_, ?_, ?_, ?_, ?_, ?_, ?_, ?_, ?_, ?_, ?_, ?_, ?_, ?_, ?_, ?_⟩
    · exact a_sky
    · exact a_land
    · exact a_price
    · exact ⟨⟨by omega, i2, i3⟩, by omega, by omega, by omega, by omega⟩
    · exact a_logA
    · exact a_logB
    · exact a_live
    · exact a_lying
    · exact I_ways_lay a_ways (by omega) (by omega)
    · exact a_crews
    · exact a_dbl
    · exact a_tape
    · exact a_law
    · exact a_ord
    · exact a_spur
    · exact a_cuts
    · exact a_cru
    · exact a_kf
    · exact a_tn
  · refine sm_lay1 h1 (by omega) (by omega) (by omega) (fun hx => by have := fw (by omega); omega) (by omega) (fun hd => absurd (by omega) hc) (fun hd => ⟨rfl, Inv_t hI0⟩)
theorem sx_crewOf {σ : St} {x1 x2 : Int} {Q : Int → St → Prop} (h1 : inR x1) (h2 : inR x2) (f1 : 0 ≤ σ 11 0 11) (f2 : σ 11 0 11 ≤ 20) (f3 : 0 ≤ x1 ∧ x1 < σ 11 0 11 → ¬ σ 79 0 x1.toNat = 0 ∧ ¬ σ 50 1 x1.toNat = 0 ∧ 0 ≤ σ 1 x1.toNat 4 ∧ σ 1 x1.toNat 4 ≤ 1) (q1 : 0 ≤ x1 ∧ x1 < σ 11 0 11 → ∀ r : Int, (x2 = 0 → r = σ 1 x1.toNat 0) ∧ (x2 = 1 → r = σ 1 x1.toNat 1) ∧ (x2 = 2 → r = σ 1 x1.toNat 2) ∧ (x2 = 3 → r = σ 1 x1.toNat 3) ∧ (x2 = 4 → r = σ 1 x1.toNat 4) ∧ (x2 < 0 ∨ 4 < x2 → r = -1) → Q r σ) (q0 : ¬ (0 ≤ x1 ∧ x1 < σ 11 0 11) → Q (-1) σ) : wp_X11_crewOf σ x1 x2 Q := by
  simp (decide := true) only [rs_ne, rs_fn, upj_eq, upj_ne, up_eq, up_ne, ra_ne, ra_fn, upr_eq, upr_ne, not_false_eq_true, ne_eq, wp_X11_crewOf, wp_X11_crewAt, wp_X1_told, forall_eq]
  repeat' first
    | with_reducible assumption
    | with_reducible rfl
    | with_reducible exact True.intro
    | (with_reducible exact Or.inl rfl)
    | (with_reducible exact Or.inr rfl)
    | (apply inR_i <;> decide)
    | with_reducible apply wi_x
    | with_reducible apply wi_m
    | with_reducible apply And.intro
    | (intro σ9 e9; subst e9)
    | intro _
  all_goals first
    | omega
    | (exfalso; omega)
    | (constructor <;> omega)
    | (exact q1 (by omega) _ (by omega))
    | (exact q0 (by omega))
theorem sm_crewOf {σ : St} {x1 x2 : Int} {Q : Int → St → Prop} (h1 : inR x1) (h2 : inR x2) (f1 : 0 ≤ σ 12 0 60) (f2 : σ 12 0 60 ≤ 20) (f3 : 0 ≤ x1 ∧ x1 < σ 12 0 60 → 0 ≤ σ 129 0 x1.toNat ∧ σ 129 0 x1.toNat ≤ 1) (q1 : 0 ≤ x1 ∧ x1 < σ 12 0 60 → ∀ r : Int, (x2 = 0 → r = σ 125 0 x1.toNat) ∧ (x2 = 1 → r = σ 126 0 x1.toNat) ∧ (x2 = 2 → r = σ 127 0 x1.toNat) ∧ (x2 = 3 → r = σ 128 0 x1.toNat) ∧ (x2 = 4 → r = σ 129 0 x1.toNat) ∧ (x2 < 0 ∨ 4 < x2 → r = -1) → Q r (st σ 12 0 0 0)) (q0 : ¬ (0 ≤ x1 ∧ x1 < σ 12 0 60) → Q (-1) (st σ 12 0 0 0)) : wp_X12_crewOf σ x1 x2 Q := by
  unfold wp_X12_crewOf
  intro τ eτ
  have g60 : τ 12 0 60 = σ 12 0 60 := by rw [eτ, rs_eq, up_ne (by decide)]
  have b125 : τ 125 = σ 125 := by rw [eτ, rs_ne (by decide)]
  have b126 : τ 126 = σ 126 := by rw [eτ, rs_ne (by decide)]
  have b127 : τ 127 = σ 127 := by rw [eτ, rs_ne (by decide)]
  have b128 : τ 128 = σ 128 := by rw [eτ, rs_ne (by decide)]
  have b129 : τ 129 = σ 129 := by rw [eτ, rs_ne (by decide)]
  rw [← eτ] at q1 q0
  try simp only [← g60] at q1 q0 f1 f2 f3
  try simp only [← b125] at q1 q0 f1 f2 f3
  try simp only [← b126] at q1 q0 f1 f2 f3
  try simp only [← b127] at q1 q0 f1 f2 f3
  try simp only [← b128] at q1 q0 f1 f2 f3
  try simp only [← b129] at q1 q0 f1 f2 f3
  clear eτ b125 b126 b127 b128 b129 g60
  try simp (decide := true) only [rs_ne, rs_fn, upj_eq, upj_ne, up_eq, up_ne, ra_ne, ra_fn, upr_eq, upr_ne, not_false_eq_true, ne_eq, wp_X12_isCrew, forall_eq]
  repeat' first
    | with_reducible assumption
    | with_reducible rfl
    | with_reducible exact True.intro
    | (with_reducible exact Or.inl rfl)
    | (with_reducible exact Or.inr rfl)
    | (apply inR_i <;> decide)
    | with_reducible apply wi_x
    | with_reducible apply wi_m
    | with_reducible apply And.intro
    | (intro σ9 e9; subst e9)
    | intro _
  all_goals first
    | omega
    | (exfalso; omega)
    | (constructor <;> omega)
    | (exact q1 (by omega) _ (by omega))
    | (exact q0 (by omega))
theorem op_crewOf {n : Nat} {σ : St} {x1 x2 : Int} (hI : Inv n σ) (h1 : inR x1) (h2 : inR x2)  : wp_X11_crewOf σ x1 x2 (fun r σ1 => wp_X12_crewOf σ1 x1 x2 (fun r2 σ2 => r2 = r ∧ Inv (n + 1) σ2)) := by
  have hI0 := hI
  obtain ⟨a_sky, a_land, a_price, a_ints, a_logA, a_logB, a_live, a_lying, a_ways, a_crews, a_dbl, a_tape, a_law, a_ord, a_spur, a_cuts, a_cru, a_kf, a_tn⟩ := hI
  have v1 := a_crews.1
  have fc : 0 ≤ x1 ∧ x1 < σ 11 0 11 → _ := fun hx => a_crews.2.1 x1.toNat (by omega)
  refine sx_crewOf h1 h2 (by omega) (by omega) (fun hx => by have := fc hx; omega) (fun hc r9 e9 => ?_) (fun hc => ?_)
  · refine sm_crewOf h1 h2 (by omega) (by omega) (fun hx => by have := fc (by omega); omega) (fun hd r8 e8 => ⟨by have := fc (by omega); omega, Inv_t hI0⟩) (fun hd => absurd (by omega) hd)
  · refine sm_crewOf h1 h2 (by omega) (by omega) (fun hx => by have := fc (by omega); omega) (fun hd => absurd (by omega) hc) (fun hd => ⟨rfl, Inv_t hI0⟩)
