/-! weather is told, weather is asked -/
theorem in1 : inR 1 := ⟨by decide, by decide⟩
theorem in0 : inR 0 := ⟨by decide, by decide⟩
theorem wx1 {σ : St} {x a b : Int} {A B : Prop} {Q : Int → St → Prop} (hx : inR x) (ha : inR a) (hb : inR b) (q1 : a ≤ x → x ≤ b → Q 1 σ) (q0 : ¬ (a ≤ x ∧ x ≤ b) → Q 0 σ) : wp_X11_within σ x a b Q := wi_x hx ha hb q1 q0
theorem sx_tell {σ : St} {x1 x2 x3 x4 : Int} {Q : Int → St → Prop} (h1 : inR x1) (h2 : inR x2) (h3 : inR x3) (h4 : inR x4) (hm : 0 ≤ σ 7 0 2 ∧ σ 7 0 2 ≤ 200) (ht : 0 ≤ σ 7 0 3 ∧ σ 7 0 3 ≤ 3999) (hd : ∀ i, 0 ≤ σ 64 0 i ∧ σ 64 0 i ≤ 3999)
    (q1 : σ 7 0 3 ≤ x1 ∧ x1 ≤ 3999 ∧ σ 7 0 2 < 200 ∧ 0 ≤ x2 ∧ x2 ≤ 9 ∧ 0 ≤ x3 ∧ x3 ≤ 9 ∧ 0 ≤ x4 ∧ x4 ≤ 9 → Q 1 (st (st (st (st (st (st σ 64 0 (Int.toNat (σ 7 0 2)) x1) 65 0 (Int.toNat (σ 7 0 2 * 3 + 0)) x2) 65 0 (Int.toNat (σ 7 0 2 * 3 + 1)) x3) 65 0 (Int.toNat (σ 7 0 2 * 3 + 2)) x4) 7 0 2 (σ 7 0 2 + 1)) 7 0 4 (lat (up (σ 64 0) (Int.toNat (σ 7 0 2)) x1) (σ 7 0 3) (σ 7 0 2 + 1).toNat)))
    (q0 : ¬ (σ 7 0 3 ≤ x1 ∧ x1 ≤ 3999 ∧ σ 7 0 2 < 200 ∧ 0 ≤ x2 ∧ x2 ≤ 9 ∧ 0 ≤ x3 ∧ x3 ≤ 9 ∧ 0 ≤ x4 ∧ x4 ≤ 9) → Q 0 σ) : wp_X7_tell σ x1 x2 x3 x4 Q := by
  unfold wp_X7_tell
  refine wi_x h1 ⟨by omega, by omega⟩ ⟨by decide, by decide⟩ (fun a b => ⟨in1, fun c => absurd c (by decide), fun _ => ⟨⟨by omega, by omega⟩, fun c1 => ?_, fun c1 => q0 (by omega)⟩⟩) (fun a => ⟨in0, fun _ => q0 (by omega), fun c => absurd rfl c⟩)
  refine wi_x h2 in0 ⟨by decide, by decide⟩ (fun a2 b2 => ⟨in1, fun c => absurd c (by decide), fun _ => ?_⟩) (fun a => ⟨in0, fun _ => q0 (by omega), fun c => absurd rfl c⟩)
  refine wi_x h3 in0 ⟨by decide, by decide⟩ (fun a3 b3 => ⟨in1, fun c => absurd c (by decide), fun _ => ?_⟩) (fun a => ⟨in0, fun _ => q0 (by omega), fun c => absurd rfl c⟩)
  refine wi_x h4 in0 ⟨by decide, by decide⟩ (fun a4 b4 => ⟨in1, fun _ => ?_, fun c => absurd c (by decide)⟩) (fun a => ⟨in0, fun c => absurd rfl c, fun _ => q0 (by omega)⟩)
  refine ⟨by omega, by omega, fun s1 e1 => ?_⟩
  have r1 : s1 7 = σ 7 := by rw [e1, rs_ne (by decide)]
  rw [r1]
  refine ⟨by omega, by omega, fun s2 e2 => ?_⟩
  have r2 : s2 7 = σ 7 := by rw [e2, rs_ne (by decide), r1]
  rw [r2]
  refine ⟨by omega, by omega, fun s3 e3 => ?_⟩
  have r3 : s3 7 = σ 7 := by rw [e3, rs_ne (by decide), r2]
  rw [r3]
  refine ⟨by omega, by omega, fun s4 e4 => ?_⟩
  have r4 : s4 7 = σ 7 := by rw [e4, rs_ne (by decide), r3]
  intro s5 e5
  rw [r4] at e5
  have r5 : s5 7 0 2 = σ 7 0 2 + 1 := by rw [e5, rs_eq, up_eq]
  have r6 : s5 7 0 3 = σ 7 0 3 := by rw [e5, rs_eq, up_ne (by decide), r4]
  have r7 : s5 64 0 = up (σ 64 0) (Int.toNat (σ 7 0 2)) x1 := by rw [e5, rs_ne (by decide), e4, rs_ne (by decide), e3, rs_ne (by decide), e2, rs_ne (by decide), e1, rs_eq]
  refine sx_tellingFor (by omega) (by omega) (fun i => ?_) ⟨by omega, by omega⟩ (fun s6 e6 => ?_)
  · rw [r7]
    unfold up
    split
    · exact ⟨by omega, by omega⟩
    · exact ⟨by have := hd i; omega, by have := hd i; omega⟩
  · rw [r5, r6, r7] at e6
    rw [e6, e5, e4, e3, e2, e1]
    exact q1 (by omega)
theorem sm_weather {σ : St} {x1 x2 x3 x4 : Int} {Q : Int → St → Prop} (h1 : inR x1) (h2 : inR x2) (h3 : inR x3) (h4 : inR x4) (f1 : 0 ≤ σ 12 0 8) (f2 : σ 12 0 8 ≤ 200) (f3 : inR (σ 12 0 1)) (q1 : σ 12 0 1 ≤ x1 ∧ x1 ≤ 3999 ∧ 0 ≤ x2 ∧ x2 ≤ 9 ∧ 0 ≤ x3 ∧ x3 ≤ 9 ∧ 0 ≤ x4 ∧ x4 ≤ 9 ∧ σ 12 0 8 < 200 → ∀ r : Int, r = 1 → Q r (st (st (st (st (st (st σ 12 0 0 0) 88 0 (Int.toNat (σ 12 0 8)) x1) 89 0 (Int.toNat (σ 12 0 8)) x2) 90 0 (Int.toNat (σ 12 0 8)) x3) 91 0 (Int.toNat (σ 12 0 8)) x4) 12 0 8 (σ 12 0 8 + 1))) (q0 : ¬ (σ 12 0 1 ≤ x1 ∧ x1 ≤ 3999 ∧ 0 ≤ x2 ∧ x2 ≤ 9 ∧ 0 ≤ x3 ∧ x3 ≤ 9 ∧ 0 ≤ x4 ∧ x4 ≤ 9 ∧ σ 12 0 8 < 200) → Q 0 (st σ 12 0 0 0)) : wp_X12_weather σ x1 x2 x3 x4 Q := by
  unfold wp_X12_weather
  intro τ eτ
  have g8 : τ 12 0 8 = σ 12 0 8 := by rw [eτ, rs_eq, up_ne (by decide)]
  have g1 : τ 12 0 1 = σ 12 0 1 := by rw [eτ, rs_eq, up_ne (by decide)]
  rw [← eτ] at q1 q0
  try simp only [← g8] at q1 q0 f1 f2 f3
  try simp only [← g1] at q1 q0 f1 f2 f3
  clear eτ g8 g1
  try simp (decide := true) only [rs_ne, rs_fn, upj_eq, upj_ne, up_eq, up_ne, ra_ne, ra_fn, upr_eq, upr_ne, not_false_eq_true, ne_eq, forall_eq]
  repeat' first
    | with_reducible assumption
    | with_reducible rfl
    | with_reducible exact True.intro
    | (with_reducible exact Or.inl rfl)
    | (with_reducible exact Or.inr rfl)
    | (apply inR_i <;> decide)
    | with_reducible apply wi_x
    | with_reducible apply wi_m
    | with_reducible apply And.intro
    | (intro σ9 e9; subst e9)
    | intro _
  all_goals first
    | omega
    | (exfalso; omega)
    | (constructor <;> omega)
    | (exact q1 (by omega) _ (by omega))
    | (exact q0 (by omega))
theorem I_sky_add {s7 days vals : Nat → Int} {now tel : Int} {tD tS tW tY : Nat → Int} {x1 x2 x3 x4 : Int} (h : I_sky s7 days vals now tel tD tS tW tY) (h9 : s7 2 < 200) (g1 : s7 3 ≤ x1 ∧ x1 ≤ 3999) (g2 : 0 ≤ x2 ∧ x2 ≤ 9) (g3 : 0 ≤ x3 ∧ x3 ≤ 9) (g4 : 0 ≤ x4 ∧ x4 ≤ 9) :
    I_sky (up (up s7 2 (s7 2 + 1)) 4 (lat (up days (s7 2).toNat x1) (s7 3) (s7 2 + 1).toNat)) (up days (s7 2).toNat x1) (up (up (up vals (s7 2 * 3 + 0).toNat x2) (s7 2 * 3 + 1).toNat x3) (s7 2 * 3 + 2).toNat x4) now (tel + 1) (up tD tel.toNat x1) (up tS tel.toNat x2) (up tW tel.toNat x3) (up tY tel.toNat x4) := by
  obtain ⟨⟨k1, k2, k3⟩, k4, k5, k6, k7, k8⟩ := h
  subst k1
  subst k3
  have z2 : up (up s7 2 (s7 2 + 1)) 4 (lat (up tD (s7 2).toNat x1) (s7 3) (s7 2 + 1).toNat) 2 = s7 2 + 1 := by rw [up_ne (by decide), up_eq]
  have z3 : up (up s7 2 (s7 2 + 1)) 4 (lat (up tD (s7 2).toNat x1) (s7 3) (s7 2 + 1).toNat) 3 = s7 3 := by rw [up_ne (by decide), up_ne (by decide)]
  refine ⟨⟨?_, ?_, rfl⟩, ?_, up_all (P := fun x => 0 ≤ x ∧ x ≤ 3999) k5 (by omega), fun i => ?_, up_all (P := fun x => 0 ≤ x ∧ x ≤ 9) (up_all (P := fun x => 0 ≤ x ∧ x ≤ 9) (up_all (P := fun x => 0 ≤ x ∧ x ≤ 9) k7 g2) g3) g4, ?_⟩
  · rw [z2]
  · rw [z3, k2]
  · rw [z2, z3]
    omega
  · obtain ⟨c1, c2, c3⟩ := k6 i
    by_cases e : i = (s7 2).toNat
    · subst e
      rw [up_eq, up_eq, up_eq]
      refine ⟨?_, ?_, ?_⟩
      · rw [up_ne (by omega), up_ne (by omega), show 3 * (s7 2).toNat = (s7 2 * 3 + 0).toNat by omega, up_eq]
      · rw [up_ne (by omega), show 3 * (s7 2).toNat + 1 = (s7 2 * 3 + 1).toNat by omega, up_eq]
      · rw [show 3 * (s7 2).toNat + 2 = (s7 2 * 3 + 2).toNat by omega, up_eq]
    · rw [up_ne e, up_ne e, up_ne e]
      refine ⟨?_, ?_, ?_⟩
      · rw [up_ne (by omega), up_ne (by omega), up_ne (by omega), c1]
      · rw [up_ne (by omega), up_ne (by omega), up_ne (by omega), c2]
      · rw [up_ne (by omega), up_ne (by omega), up_ne (by omega), c3]
  · rw [up_eq, z2, z3]
theorem op_weather {n : Nat} {σ : St} {x1 x2 x3 x4 : Int} (hI : Inv n σ) (h1 : inR x1) (h2 : inR x2) (h3 : inR x3) (h4 : inR x4) : wp_X11_weather σ x1 x2 x3 x4 (fun r σ1 => wp_X12_weather σ1 x1 x2 x3 x4 (fun r2 σ2 => r2 = r ∧ Inv (n + 1) σ2)) := by
  have hI0 := hI
  obtain ⟨a_sky, a_land, a_price, a_ints, a_logA, a_logB, a_live, a_lying, a_ways, a_crews, a_dbl, a_tape, a_law, a_ord, a_spur, a_cuts, a_cru, a_kf, a_tn⟩ := hI
  obtain ⟨⟨k1, k2, k3⟩, k4, k5, -⟩ := id a_sky
  refine sx_tell h1 h2 h3 h4 (by omega) (by omega) k5 (fun hc => ⟨Or.inr rfl, ?_⟩) (fun hc => ⟨Or.inl rfl, ?_⟩)
  · obtain ⟨τ, eτ⟩ : ∃ τ : St, τ = (st (st (st (st (st (st σ 64 0 (Int.toNat (σ 7 0 2)) x1) 65 0 (Int.toNat (σ 7 0 2 * 3 + 0)) x2) 65 0 (Int.toNat (σ 7 0 2 * 3 + 1)) x3) 65 0 (Int.toNat (σ 7 0 2 * 3 + 2)) x4) 7 0 2 (σ 7 0 2 + 1)) 7 0 4 (lat (up (σ 64 0) (Int.toNat (σ 7 0 2)) x1) (σ 7 0 3) (σ 7 0 2 + 1).toNat)) := ⟨_, rfl⟩
    rw [← eτ]
    have q0 : τ 12 = σ 12 := by rw [eτ, rs_ne (by decide), rs_ne (by decide), rs_ne (by decide), rs_ne (by decide), rs_ne (by decide), rs_ne (by decide)]
    have q1 : τ 12 0 8 = σ 12 0 8 := by rw [q0]
    have q2 : τ 12 0 1 = σ 12 0 1 := by rw [q0]
    refine sm_weather h1 h2 h3 h4 (by omega) (by omega) ⟨by omega, by omega⟩ (fun hd r8 e8 => ⟨by omega, ?_⟩) (fun hd => absurd (by omega) hd)
    rw [eτ]
    unfold Inv
    simp (decide := true) only [rs_ne, rs_fn, upj_eq, upj_ne, up_eq, up_ne, ra_ne, ra_fn, upr_eq, upr_ne, not_false_eq_true, ne_eq]
    refine ⟨?_, ?_, ?_, ?_, ?_, ?_, ?_, ?_, ?_, ?_, ?_, ?_, ?_, ?_, ?_, ?_, ?_, ?_, ?_⟩
    · exact I_sky_add a_sky (by omega) (by omega) (by omega) (by omega) (by omega)
    · exact a_land
    · exact a_price
    · exact I_ints_up a_ints
    · exact a_logA
    · exact a_logB
    · exact a_live
    · exact a_lying
    · exact a_ways
    · exact a_crews
    · exact a_dbl
    · exact a_tape
    · exact a_law
    · exact a_ord
    · exact a_spur
    · exact a_cuts
    · exact a_cru
    · exact a_kf
    · exact a_tn
  · refine sm_weather h1 h2 h3 h4 (by omega) (by omega) ⟨by omega, by omega⟩ (fun hd => absurd (by omega) hc) (fun hd => ⟨rfl, Inv_t hI0⟩)
theorem op_weatherOf {n : Nat} {σ : St} {x1 x2 : Int} (hI : Inv n σ) (h1 : inR x1) (h2 : inR x2) : wp_X11_weatherOf σ x1 x2 (fun r σ1 => wp_X12_weatherOf σ1 x1 x2 (fun r2 σ2 => r2 = r ∧ Inv (n + 1) σ2)) := by
  have hI0 := hI
  obtain ⟨a_sky, a_land, a_price, a_ints, a_logA, a_logB, a_live, a_lying, a_ways, a_crews, a_dbl, a_tape, a_law, a_ord, a_spur, a_cuts, a_cru, a_kf, a_tn⟩ := hI
  obtain ⟨⟨k1, k2, k3⟩, k4, k5, -⟩ := id a_sky
  have hno : ¬ (0 ≤ x1 ∧ x1 ≤ 3999 ∧ 0 ≤ x2 ∧ x2 ≤ 2) → wp_X12_weatherOf σ x1 x2 (fun r2 σ2 => r2 = -1 ∧ Inv (n + 1) σ2) := by
    intro hc τ eτ
    refine wi_m h1 in0 ⟨by decide, by decide⟩ (fun a b => ⟨in1, fun c => absurd c (by decide), fun _ => wi_m h2 in0 ⟨by decide, by decide⟩ (fun a2 b2 => absurd ⟨a, b, a2, b2⟩ hc) (fun a2 => ⟨in0, fun _ => ⟨rfl, by rw [eτ]; exact Inv_t hI0⟩, fun c => absurd rfl c⟩)⟩) (fun a => ⟨in0, fun _ => ⟨rfl, by rw [eτ]; exact Inv_t hI0⟩, fun c => absurd rfl c⟩)
  unfold wp_X11_weatherOf wp_X11_isDay
  refine wi_x h1 in0 ⟨by decide, by decide⟩ (fun a b => ⟨Or.inr rfl, in1, fun c => absurd c (by decide), fun _ => ?_⟩) (fun a => ⟨Or.inl rfl, in0, fun _ => hno (by omega), fun c => absurd rfl c⟩)
  refine wi_x h2 in0 ⟨by decide, by decide⟩ (fun a2 b2 => ⟨in1, fun _ => ?_, fun c => absurd c (by decide)⟩) (fun a2 => ⟨in0, fun c => absurd rfl c, fun _ => hno (by omega)⟩)
  unfold wp_X7_on
  have lb := lat_b (σ 64 0) x1 (σ 7 0 2).toNat
  refine sx_tellingFor (by omega) (by omega) (fun i => ⟨by have := k5 i; omega, by have := k5 i; omega⟩) h1 (sx_valueOf (by omega) (by omega) a2 b2 ?_)
  intro τ eτ
  have t12 : τ 12 0 8 = σ 12 0 8 := by rw [eτ, rs_eq, up_ne (by decide)]
  have t88 : τ 88 = σ 88 := by rw [eτ, rs_ne (by decide)]
  have t89 : τ 89 = σ 89 := by rw [eτ, rs_ne (by decide)]
  have t90 : τ 90 = σ 90 := by rw [eτ, rs_ne (by decide)]
  have t91 : τ 91 = σ 91 := by rw [eτ, rs_ne (by decide)]
  refine wi_m h1 in0 ⟨by decide, by decide⟩ (fun _ _ => ⟨in1, fun c => absurd c (by decide), fun _ => wi_m h2 in0 ⟨by decide, by decide⟩ (fun _ _ => ⟨in1, fun c => absurd c (by decide), fun _ => ?_⟩) (fun c => absurd ⟨a2, b2⟩ c)⟩) (fun c => absurd ⟨a, b⟩ c)
  refine sm_sky (by omega) (by omega) (fun i => ?_) h1 h2 ?_
  · rw [t88, k3]
    exact ⟨by have := k5 i; omega, by have := k5 i; omega⟩
  · rw [t12, t88, t89, t90, t91, k1, k3, sky_eq a_sky (by omega) a2 b2]
    exact ⟨rfl, by rw [eτ]; exact Inv_t hI0⟩
