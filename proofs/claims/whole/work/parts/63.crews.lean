/-! crews and ways are made, crews leave -/
theorem I_ways_add {wc wc2 x1 x2 x3 : Int} {W W' : Nat → Nat → Int} {f78 a10 k2 f2 t2 l2 d2 : Nat → Int} (h : I_ways wc wc2 W f78 a10 k2 f2 t2 l2 d2) (h9 : wc < 40) (g1 : 0 ≤ x1 ∧ x1 ≤ 4) (g2 : 0 ≤ x2 ∧ x2 ≤ 63) (g3 : 0 ≤ x3 ∧ x3 ≤ 63) (hw : ∀ i, i ≠ wc.toNat → W' i = W i) (w0 : W' wc.toNat 0 = x1 ∧ W' wc.toNat 1 = x2 ∧ W' wc.toNat 2 = x3 ∧ W' wc.toNat 3 = 0 ∧ W' wc.toNat 4 = -1) : I_ways (wc + 1) (wc2 + 1) W' (up f78 wc.toNat 1) (up a10 wc.toNat 1) (up k2 wc2.toNat x1) (up f2 wc2.toNat x2) (up t2 wc2.toNat x3) l2 (up d2 wc2.toNat (-1)) := by
  obtain ⟨⟨s1, s2, s3⟩, s4, s5⟩ := h
  subst s1
  refine ⟨⟨rfl, by omega, by omega⟩, fun i hi => ?_, fun i hi => ?_⟩
  · by_cases q : i = wc2.toNat
    · have s := s5 i (by omega)
      rw [q] at s ⊢
      rw [up_eq, up_eq, up_eq, up_eq, up_eq, up_eq]
      exact ⟨⟨by decide, by decide⟩, by omega, by omega⟩
    · rw [up_ne q, up_ne q, up_ne q, up_ne q, up_ne q, up_ne q, hw i q]
      exact s4 i (by omega)
  · rw [up_ne (by omega)]
    exact s5 i (by omega)
theorem I_crews_add {cc cc2 lc today x1 : Int} {C C' : Nat → Nat → Int} {f79 a1 b2 e2 o2 p2 l2 : Nat → Int} (h : I_crews cc cc2 lc today C f79 a1 b2 e2 o2 p2 l2) (h9 : cc < 20) (hl : 0 ≤ lc ∧ 0 ≤ today) (g1 : 0 ≤ x1 ∧ x1 ≤ 9) (hw : ∀ i, i ≠ cc.toNat → C' i = C i) (w0 : C' cc.toNat 0 = x1 ∧ C' cc.toNat 1 = 0 ∧ C' cc.toNat 2 = 0 ∧ C' cc.toNat 3 = 0 ∧ C' cc.toNat 4 = 0) : I_crews (cc + 1) (cc2 + 1) lc today C' (up f79 cc.toNat 1) (up a1 cc.toNat 1) (up b2 cc2.toNat x1) e2 o2 p2 l2 := by
  obtain ⟨⟨s1, s2, s3⟩, s4, s5⟩ := h
  subst s1
  refine ⟨⟨rfl, by omega, by omega⟩, fun i hi => ?_, fun i hi => ?_⟩
  · by_cases q : i = cc2.toNat
    · have s := s5 i (by omega)
      rw [q] at s ⊢
      rw [up_eq, up_eq, up_eq]
      exact ⟨⟨by decide, by decide⟩, by omega, by omega⟩
    · rw [up_ne q, up_ne q, up_ne q, hw i q]
      exact s4 i (by omega)
  · rw [up_ne (by omega)]
    exact s5 i (by omega)
theorem sm_way {σ : St} {x1 x2 x3 : Int} {Q : Int → St → Prop} (h1 : inR x1) (h2 : inR x2) (h3 : inR x3) (f1 : 0 ≤ σ 12 0 53) (f2 : σ 12 0 53 ≤ 40) (q1 : 0 ≤ x2 ∧ x2 ≤ 63 ∧ 0 ≤ x3 ∧ x3 ≤ 63 ∧ apv x2 x3 = 1 ∧ 0 ≤ x1 ∧ x1 ≤ 4 ∧ σ 12 0 53 < 40 → ∀ r : Int, r = σ 12 0 53 → Q r (st (st (st (st (st (st σ 12 0 0 0) 120 0 (Int.toNat (σ 12 0 53)) x1) 121 0 (Int.toNat (σ 12 0 53)) x2) 122 0 (Int.toNat (σ 12 0 53)) x3) 124 0 (Int.toNat (σ 12 0 53)) (-1)) 12 0 53 (σ 12 0 53 + 1))) (q0 : ¬ (0 ≤ x2 ∧ x2 ≤ 63 ∧ 0 ≤ x3 ∧ x3 ≤ 63 ∧ apv x2 x3 = 1 ∧ 0 ≤ x1 ∧ x1 ≤ 4 ∧ σ 12 0 53 < 40) → Q (-1) (st σ 12 0 0 0)) : wp_X12_way σ x1 x2 x3 Q := by
  unfold wp_X12_way
  intro τ eτ
  have g53 : τ 12 0 53 = σ 12 0 53 := by rw [eτ, rs_eq, up_ne (by decide)]
  rw [← eτ] at q1 q0
  try simp only [← g53] at q1 q0 f1 f2
  clear eτ g53
  try simp (decide := true) only [rs_ne, rs_fn, upj_eq, upj_ne, up_eq, up_ne, ra_ne, ra_fn, upr_eq, upr_ne, not_false_eq_true, ne_eq, wp_X12_isCell, forall_eq]
  repeat' first
    | with_reducible assumption
    | with_reducible rfl
    | with_reducible exact True.intro
    | (with_reducible exact Or.inl rfl)
    | (with_reducible exact Or.inr rfl)
    | (apply inR_i <;> decide)
    | with_reducible apply sm_areBeside
    | with_reducible apply wi_x
    | with_reducible apply wi_m
    | with_reducible apply And.intro
    | (intro σ9 e9; subst e9)
    | intro _
  all_goals first
    | omega
    | (exfalso; omega)
    | (constructor <;> omega)
    | (exact q1 (by omega) _ (by omega))
    | (exact q0 (by omega))
theorem sx_way {σ : St} {x1 x2 x3 : Int} {Q : Int → St → Prop} (h1 : inR x1) (h2 : inR x2) (h3 : inR x3) (f1 : 0 ≤ σ 11 0 6 ∧ σ 11 0 6 ≤ 40) (f2 : ∀ i : Nat, σ 11 0 6 ≤ (i : Int) → σ 50 10 i = 0)
    (q1 : 0 ≤ x2 ∧ x2 ≤ 63 ∧ 0 ≤ x3 ∧ x3 ≤ 63 ∧ apv x2 x3 = 1 ∧ 0 ≤ x1 ∧ x1 ≤ 4 ∧ σ 11 0 6 < 40 → ∀ τ : St, τ = st (st (st (st (st (st (st (st (sta σ 10 (Int.toNat (σ 11 0 6)) z0) 50 10 (Int.toNat (σ 11 0 6)) 1) 10 (Int.toNat (σ 11 0 6)) 3 0) 10 (Int.toNat (σ 11 0 6)) 4 (-1)) 10 (Int.toNat (σ 11 0 6)) 0 x1) 10 (Int.toNat (σ 11 0 6)) 1 x2) 10 (Int.toNat (σ 11 0 6)) 2 x3) 78 0 (Int.toNat (σ 11 0 6)) 1) 11 0 6 (σ 11 0 6 + 1) → Q (σ 11 0 6) τ)
    (q0 : ¬ (0 ≤ x2 ∧ x2 ≤ 63 ∧ 0 ≤ x3 ∧ x3 ≤ 63 ∧ apv x2 x3 = 1 ∧ 0 ≤ x1 ∧ x1 ≤ 4 ∧ σ 11 0 6 < 40) → Q (-1) σ) : wp_X11_way σ x1 x2 x3 Q := by
  unfold wp_X11_way wp_X11_isCell wp_X3_sideBySide
  refine wi_x h2 in0 ⟨by decide, by decide⟩ (fun a2 b2 => ⟨Or.inr rfl, in1, fun c => absurd c (by decide), fun _ => ?_⟩) (fun a => ⟨Or.inl rfl, in0, fun _ => q0 (by omega), fun c => absurd rfl c⟩)
  refine wi_x h3 in0 ⟨by decide, by decide⟩ (fun a3 b3 => ⟨Or.inr rfl, in1, fun c => absurd c (by decide), fun _ => ?_⟩) (fun a => ⟨Or.inl rfl, in0, fun _ => q0 (by omega), fun c => absurd rfl c⟩)
  have ab := apv_b a2 b2 a3 b3
  refine sx_apart a2 b2 a3 b3 ⟨⟨by omega, by omega⟩, fun c => ⟨in0, fun d => absurd rfl d, fun _ => q0 (by omega)⟩, fun c => ⟨in1, fun _ => ?_, fun d => absurd d (by decide)⟩⟩
  refine wi_x h1 in0 ⟨by decide, by decide⟩ (fun a1 b1 => ⟨in1, fun c => absurd c (by decide), fun _ => ⟨⟨by omega, by omega⟩, fun d => ⟨f2 _ (by omega), fun s1 e1 => ?_⟩, fun d => q0 (by omega)⟩⟩) (fun a => ⟨in0, fun _ => q0 (by omega), fun c => absurd rfl c⟩)
  intro s2 e2 s3 e3 s4 e4 s5 e5 s6 e6
  have hlv : s6 50 10 (Int.toNat (σ 11 0 6)) ≠ 0 := by
    rw [e6, rs_ne (by decide), e5, rs_ne (by decide), e4, rs_ne (by decide), e3, rs_ne (by decide), e2, rs_ne (by decide), e1, rs_eq, up_eq]
    decide
  refine ⟨by omega, by omega, hlv, fun s7 e7 s8 e8 => ?_⟩
  have r11 : s7 11 0 6 = σ 11 0 6 := by rw [e7, rs_ne (by decide), e6, rs_ne (by decide), e5, rs_ne (by decide), e4, rs_ne (by decide), e3, rs_ne (by decide), e2, rs_ne (by decide), e1, rs_ne (by decide), ra_ne (by decide)]
  have r8 : s8 11 0 6 - 1 = σ 11 0 6 := by rw [e8, rs_eq, up_eq, r11]; omega
  rw [r8]
  refine q1 (by omega) _ ?_
  rw [e8, r11, e7, e6, e5, e4, e3, e2, e1]
theorem op_way {n : Nat} {σ : St} {x1 x2 x3 : Int} (hI : Inv n σ) (h1 : inR x1) (h2 : inR x2) (h3 : inR x3) : wp_X11_way σ x1 x2 x3 (fun r σ1 => wp_X12_way σ1 x1 x2 x3 (fun r2 σ2 => r2 = r ∧ Inv (n + 1) σ2)) := by
  have hI0 := hI
  obtain ⟨a_sky, a_land, a_price, a_ints, a_logA, a_logB, a_live, a_lying, a_ways, a_crews, a_dbl, a_tape, a_law, a_ord, a_spur, a_cuts, a_cru, a_kf, a_tn⟩ := hI
  obtain ⟨⟨w1, w2, w3⟩, w4, w5⟩ := id a_ways
  refine sx_way h1 h2 h3 ⟨w2, w3⟩ (fun i hi => (w5 i hi).1) (fun hc τ eτ => ?_) (fun hc => ?_)
  · have q0 : τ 12 = σ 12 := by rw [eτ, rs_ne (by decide), rs_ne (by decide), rs_ne (by decide), rs_ne (by decide), rs_ne (by decide), rs_ne (by decide), rs_ne (by decide), rs_ne (by decide), ra_ne (by decide)]
    have q1 : τ 12 0 53 = σ 12 0 53 := by rw [q0]
    refine sm_way h1 h2 h3 (by omega) (by omega) (fun hd r8 e8 => ⟨by omega, ?_⟩) (fun hd => absurd (by omega) hd)
    rw [q1, eτ]
    unfold Inv
    simp (decide := true) only [rs_ne, rs_fn, upj_eq, upj_ne, up_eq, up_ne, ra_ne, ra_fn, upr_eq, upr_ne, not_false_eq_true, ne_eq]
    refine ⟨?_, ?_, ?_, ?_, ?_, ?_, ?_, ?_, ?_, ?_, ?_, ?_, ?_, ?_, ?_, ?_, ?_, ?_, ?_⟩
    · exact a_sky
    · exact a_land
    · exact a_price
    · exact I_ints_up a_ints
    · exact a_logA
    · exact a_logB
    · exact a_live
    · exact a_lying
    · exact I_ways_add a_ways (by omega) (by omega) (by omega) (by omega) (fun i hi => by simp only [upj_ne hi, upr_ne hi]) (by simp (decide := true) only [upj_eq, up_eq, up_ne, not_false_eq_true, and_self])
    · exact a_crews
    · exact a_dbl
    · exact a_tape
    · exact a_law
    · exact a_ord
    · exact a_spur
    · exact a_cuts
    · exact a_cru
    · exact a_kf
    · exact a_tn
  · refine sm_way h1 h2 h3 (by omega) (by omega) (fun hd => absurd (by omega) hc) (fun hd => ⟨rfl, Inv_t hI0⟩)
theorem sm_crew {σ : St} {x1 : Int} {Q : Int → St → Prop} (h1 : inR x1) (f1 : 0 ≤ σ 12 0 60) (f2 : σ 12 0 60 ≤ 20) (q1 : 0 ≤ x1 ∧ x1 ≤ 9 ∧ σ 12 0 60 < 20 → ∀ r : Int, r = σ 12 0 60 → Q r (st (st (st σ 12 0 0 0) 125 0 (Int.toNat (σ 12 0 60)) x1) 12 0 60 (σ 12 0 60 + 1))) (q0 : ¬ (0 ≤ x1 ∧ x1 ≤ 9 ∧ σ 12 0 60 < 20) → Q (-1) (st σ 12 0 0 0)) : wp_X12_crew σ x1 Q := by
  unfold wp_X12_crew
  intro τ eτ
  have g60 : τ 12 0 60 = σ 12 0 60 := by rw [eτ, rs_eq, up_ne (by decide)]
  rw [← eτ] at q1 q0
  try simp only [← g60] at q1 q0 f1 f2
  clear eτ g60
  try simp (decide := true) only [rs_ne, rs_fn, upj_eq, upj_ne, up_eq, up_ne, ra_ne, ra_fn, upr_eq, upr_ne, not_false_eq_true, ne_eq, forall_eq]
  repeat' first
    | with_reducible assumption
    | with_reducible rfl
    | with_reducible exact True.intro
    | (with_reducible exact Or.inl rfl)
    | (with_reducible exact Or.inr rfl)
    | (apply inR_i <;> decide)
    | with_reducible apply wi_x
    | with_reducible apply wi_m
    | with_reducible apply And.intro
    | (intro σ9 e9; subst e9)
    | intro _
  all_goals first
    | omega
    | (exfalso; omega)
    | (constructor <;> omega)
    | (exact q1 (by omega) _ (by omega))
    | (exact q0 (by omega))
theorem sx_crew {σ : St} {x1 : Int} {Q : Int → St → Prop} (h1 : inR x1) (f1 : 0 ≤ σ 11 0 11 ∧ σ 11 0 11 ≤ 20) (f2 : ∀ i : Nat, σ 11 0 11 ≤ (i : Int) → σ 50 1 i = 0)
    (q1 : 0 ≤ x1 ∧ x1 ≤ 9 ∧ σ 11 0 11 < 20 → ∀ τ : St, τ = st (st (st (st (st (st (st (st (sta σ 1 (Int.toNat (σ 11 0 11)) z0) 50 1 (Int.toNat (σ 11 0 11)) 1) 1 (Int.toNat (σ 11 0 11)) 1 0) 1 (Int.toNat (σ 11 0 11)) 2 0) 1 (Int.toNat (σ 11 0 11)) 3 0) 1 (Int.toNat (σ 11 0 11)) 4 0) 1 (Int.toNat (σ 11 0 11)) 0 x1) 79 0 (Int.toNat (σ 11 0 11)) 1) 11 0 11 (σ 11 0 11 + 1) → Q (σ 11 0 11) τ)
    (q0 : ¬ (0 ≤ x1 ∧ x1 ≤ 9 ∧ σ 11 0 11 < 20) → Q (-1) σ) : wp_X11_crew σ x1 Q := by
  unfold wp_X11_crew
  refine wi_x h1 in0 ⟨by decide, by decide⟩ (fun a1 b1 => ⟨in1, fun c => absurd c (by decide), fun _ => ⟨⟨by omega, by omega⟩, fun d => ⟨f2 _ (by omega), fun s1 e1 => ?_⟩, fun d => q0 (by omega)⟩⟩) (fun a => ⟨in0, fun _ => q0 (by omega), fun c => absurd rfl c⟩)
  intro s2 e2 s3 e3 s4 e4 s5 e5 s6 e6
  have hlv : s6 50 1 (Int.toNat (σ 11 0 11)) ≠ 0 := by
    rw [e6, rs_ne (by decide), e5, rs_ne (by decide), e4, rs_ne (by decide), e3, rs_ne (by decide), e2, rs_ne (by decide), e1, rs_eq, up_eq]
    decide
  refine ⟨by omega, by omega, hlv, fun s7 e7 s8 e8 => ?_⟩
  have r11 : s7 11 0 11 = σ 11 0 11 := by rw [e7, rs_ne (by decide), e6, rs_ne (by decide), e5, rs_ne (by decide), e4, rs_ne (by decide), e3, rs_ne (by decide), e2, rs_ne (by decide), e1, rs_ne (by decide), ra_ne (by decide)]
  have r8 : s8 11 0 11 - 1 = σ 11 0 11 := by rw [e8, rs_eq, up_eq, r11]; omega
  rw [r8]
  refine q1 (by omega) _ ?_
  rw [e8, r11, e7, e6, e5, e4, e3, e2, e1]
theorem op_crew {n : Nat} {σ : St} {x1 : Int} (hI : Inv n σ) (h1 : inR x1) : wp_X11_crew σ x1 (fun r σ1 => wp_X12_crew σ1 x1 (fun r2 σ2 => r2 = r ∧ Inv (n + 1) σ2)) := by
  have hI0 := hI
  obtain ⟨a_sky, a_land, a_price, a_ints, a_logA, a_logB, a_live, a_lying, a_ways, a_crews, a_dbl, a_tape, a_law, a_ord, a_spur, a_cuts, a_cru, a_kf, a_tn⟩ := hI
  obtain ⟨⟨w1, w2, w3⟩, w4, w5⟩ := id a_crews
  have v2 := a_live.2.1
  obtain ⟨-, k4, -⟩ := id a_sky
  refine sx_crew h1 ⟨w2, w3⟩ (fun i hi => (w5 i hi).1) (fun hc τ eτ => ?_) (fun hc => ?_)
  · have q0 : τ 12 = σ 12 := by rw [eτ, rs_ne (by decide), rs_ne (by decide), rs_ne (by decide), rs_ne (by decide), rs_ne (by decide), rs_ne (by decide), rs_ne (by decide), rs_ne (by decide), ra_ne (by decide)]
    have q1 : τ 12 0 60 = σ 12 0 60 := by rw [q0]
    refine sm_crew h1 (by omega) (by omega) (fun hd r8 e8 => ⟨by omega, ?_⟩) (fun hd => absurd (by omega) hd)
    rw [q1, eτ]
    unfold Inv
    simp (decide := true) only [rs_ne, rs_fn, upj_eq, upj_ne, up_eq, up_ne, ra_ne, ra_fn, upr_eq, upr_ne, not_false_eq_true, ne_eq]
    refine ⟨?_, ?_, ?_, ?_, ?_, ?_, ?_, ?_, ?_, ?_, ?_, ?_, ?_, ?_, ?_, ?_, ?_, ?_, ?_⟩
    · exact a_sky
    · exact a_land
    · exact a_price
    · exact I_ints_up a_ints
    · exact a_logA
    · exact a_logB
    · exact a_live
    · exact a_lying
    · exact a_ways
    · exact I_crews_add a_crews (by omega) (by omega) (by omega) (fun i hi => by simp only [upj_ne hi, upr_ne hi]) (by simp (decide := true) only [upj_eq, up_eq, up_ne, not_false_eq_true, and_self])
    · exact a_dbl
    · exact a_tape
    · exact a_law
    · exact a_ord
    · exact a_spur
    · exact a_cuts
    · exact a_cru
    · exact a_kf
    · exact a_tn
  · refine sm_crew h1 (by omega) (by omega) (fun hd => absurd (by omega) hc) (fun hd => ⟨rfl, Inv_t hI0⟩)
theorem I_crews_set {cc cc2 lc today e w p l : Int} {C C' : Nat → Nat → Int} {f79 a1 b2 e2 o2 p2 l2 : Nat → Int} {j : Nat} (h : I_crews cc cc2 lc today C f79 a1 b2 e2 o2 p2 l2) (hj : (j : Int) < cc) (hw : ∀ i, i ≠ j → C' i = C i) (w0 : C' j 0 = C j 0 ∧ C' j 1 = e ∧ C' j 2 = w ∧ C' j 3 = p ∧ C' j 4 = l) (g : 0 ≤ e ∧ e ≤ 3000000 * lc ∧ 0 ≤ w ∧ w ≤ 10000 * (today + 1) ∧ 0 ≤ l ∧ l ≤ 1) : I_crews cc cc2 lc today C' f79 a1 b2 (up e2 j e) (up o2 j w) (up p2 j p) (up l2 j l) := by
  obtain ⟨s1, s4, s5⟩ := h
  refine ⟨s1, fun i hi => ?_, fun i hi => ?_⟩
  · by_cases q : i = j
    · subst q
      obtain ⟨p1, p2, p3⟩ := s4 i hi
      rw [up_eq, up_eq, up_eq, up_eq]
      exact ⟨p1, by omega, by omega⟩
    · rw [up_ne q, up_ne q, up_ne q, up_ne q, hw i q]
      exact s4 i hi
  · rw [up_ne (by omega), up_ne (by omega), up_ne (by omega), up_ne (by omega)]
    exact s5 i hi
theorem sx_leave {σ : St} {x1 : Int} {Q : Int → St → Prop} (h1 : inR x1) (hI : I_crews (σ 11 0 11) (σ 12 0 60) (σ 11 0 4) (σ 7 0 3) (σ 1) (σ 79 0) (σ 50 1) (σ 125 0) (σ 126 0) (σ 127 0) (σ 128 0) (σ 129 0)) (hl : σ 11 0 4 ≤ 300 ∧ σ 7 0 3 ≤ 3999)
    (q1 : 0 ≤ x1 → x1 < σ 11 0 11 → σ 1 x1.toNat 4 = 0 → ∀ τ : St, τ = st (st (st (st σ 1 x1.toNat 1 0) 1 x1.toNat 2 (max 0 (-(σ 1 x1.toNat 1 - σ 1 x1.toNat 2)))) 1 x1.toNat 3 (σ 1 x1.toNat 3 + max 0 (σ 1 x1.toNat 1 - σ 1 x1.toNat 2))) 1 x1.toNat 4 1 → Q (σ 1 x1.toNat 1 - σ 1 x1.toNat 2) τ)
    (q0 : ¬ (0 ≤ x1 ∧ x1 < σ 11 0 11 ∧ σ 1 x1.toNat 4 = 0) → Q (-1000000) σ) : wp_X11_leave σ x1 Q := by
  unfold wp_X11_leave wp_X11_leave_17 wp_X1_settleForGood
  refine crewAt_x hI h1 (fun u1 u2 => ?_) (fun u => q0 (by omega))
  obtain ⟨⟨w7, w1⟩, e, wr⟩ := hI.2.1 x1.toNat (by omega)
  refine ⟨w1, ⟨by omega, by omega⟩, fun c => ⟨w1, w1, w1, fun v9 e9 => ⟨w1, fun s1 e1 => ?_⟩⟩, fun c => q0 (by omega)⟩
  have l1 : s1 50 = σ 50 := by rw [e1, rs_ne (by decide)]
  refine j_max in0 ⟨by omega, by omega⟩ ⟨by rw [l1]; exact w1, fun s2 e2 => ?_⟩
  have l2 : s2 50 = σ 50 := by rw [e2, rs_ne (by decide), l1]
  refine ⟨by rw [l2]; exact w1, j_max in0 ⟨by omega, by omega⟩ ⟨by rw [l2]; exact w1, fun s3 e3 => ?_⟩⟩
  have l3 : s3 50 = σ 50 := by rw [e3, rs_ne (by decide), l2]
  refine ⟨by rw [l3]; exact w1, fun s4 e4 => ?_⟩
  rw [e9]
  refine q1 u1 u2 c _ ?_
  have r2 : s2 1 x1.toNat 3 = σ 1 x1.toNat 3 := by rw [e2, rs_eq, up_ne (by decide), e1, rs_eq, up_ne (by decide)]
  rw [e4, e3, r2, e2, e1, e9]
theorem sm_leave {σ : St} {x1 : Int} {Q : Int → St → Prop} (h1 : inR x1) (f1 : 0 ≤ σ 12 0 60 ∧ σ 12 0 60 ≤ 20) (f2 : 0 ≤ x1 ∧ x1 < σ 12 0 60 → 0 ≤ σ 129 0 x1.toNat ∧ σ 129 0 x1.toNat ≤ 1 ∧ 0 ≤ σ 126 0 x1.toNat ∧ σ 126 0 x1.toNat ≤ 1000000000 ∧ 0 ≤ σ 127 0 x1.toNat ∧ σ 127 0 x1.toNat ≤ 1000000000)
    (q1 : 0 ≤ x1 → x1 < σ 12 0 60 → σ 129 0 x1.toNat = 0 → ∀ τ : St, τ = st (st (st (st (st σ 12 0 0 0) 129 0 x1.toNat 1) 126 0 x1.toNat 0) 127 0 x1.toNat (max 0 (-(σ 126 0 x1.toNat - σ 127 0 x1.toNat)))) 128 0 x1.toNat (σ 128 0 x1.toNat + max 0 (σ 126 0 x1.toNat - σ 127 0 x1.toNat)) → Q (σ 126 0 x1.toNat - σ 127 0 x1.toNat) τ)
    (q0 : ¬ (0 ≤ x1 ∧ x1 < σ 12 0 60 ∧ σ 129 0 x1.toNat = 0) → Q (-1000000) (st σ 12 0 0 0)) : wp_X12_leave σ x1 Q := by
  intro τ eτ
  have t60 : τ 12 0 60 = σ 12 0 60 := by rw [eτ, rs_eq, up_ne (by decide)]
  have t126 : τ 126 = σ 126 := by rw [eτ, rs_ne (by decide)]
  have t127 : τ 127 = σ 127 := by rw [eτ, rs_ne (by decide)]
  have t128 : τ 128 = σ 128 := by rw [eτ, rs_ne (by decide)]
  have t129 : τ 129 = σ 129 := by rw [eτ, rs_ne (by decide)]
  rw [← eτ] at q0
  rw [← eτ] at q1
  unfold wp_X12_isCrew wp_X12_leave_22 wp_X12_leave_69 wp_X12_leave_86
  refine wi_m h1 in0 ⟨by omega, by omega⟩ (fun a b => ⟨Or.inr rfl, in1, fun c => absurd c (by decide), fun _ => ?_⟩) (fun a => ⟨Or.inl rfl, in0, fun _ => q0 (by omega), fun c => absurd rfl c⟩)
  obtain f3 := f2 (by omega)
  rw [t129, t126, t127]
  refine ⟨by omega, by omega, ⟨by omega, by omega⟩, fun c => ⟨by omega, by omega, by omega, by omega, fun v9 e9 => ⟨by omega, by omega, fun s1 e1 => ⟨by omega, by omega, fun s2 e2 => ?_⟩⟩⟩, fun c => q0 (by omega)⟩
  have fin : ∀ y z : Int, y = max 0 (-(σ 126 0 x1.toNat - σ 127 0 x1.toNat)) → z = max 0 (σ 126 0 x1.toNat - σ 127 0 x1.toNat) → ∀ s3 : St, s3 = st s2 127 0 (Int.toNat x1) y → ∀ s4 : St, s4 = st s3 128 0 (Int.toNat x1) (s3 128 0 (Int.toNat x1) + z) → Q v9 s4 := by
    intro y z hy hz s3 e3 s4 e4
    rw [e9]
    refine q1 a (by omega) c _ ?_
    have r3 : s3 128 = σ 128 := by rw [e3, rs_ne (by decide), e2, rs_ne (by decide), e1, rs_ne (by decide), t128]
    rw [e4, r3, e3, e2, e1, hy, hz]
  refine ⟨⟨by omega, by omega⟩, fun d => ⟨by omega, by omega, fun s3 e3 => ⟨by omega, by omega, ⟨by omega, by omega⟩, fun d2 => ⟨by omega, by omega, fun s4 e4 => fin 0 0 (by omega) (by omega) s3 e3 s4 e4⟩, fun d2 => ⟨by omega, by omega, fun s4 e4 => fin 0 v9 (by omega) (by omega) s3 e3 s4 e4⟩⟩⟩, fun d => ⟨by omega, by omega, fun s3 e3 => ⟨by omega, by omega, ⟨by omega, by omega⟩, fun d2 => ⟨by omega, by omega, fun s4 e4 => fin (-v9) 0 (by omega) (by omega) s3 e3 s4 e4⟩, fun d2 => absurd d2 (by omega)⟩⟩⟩
theorem op_leave {n : Nat} {σ : St} {x1 : Int} (hI : Inv n σ) (h1 : inR x1) : wp_X11_leave σ x1 (fun r σ1 => wp_X12_leave σ1 x1 (fun r2 σ2 => r2 = r ∧ Inv (n + 1) σ2)) := by
  have hI0 := hI
  obtain ⟨a_sky, a_land, a_price, a_ints, a_logA, a_logB, a_live, a_lying, a_ways, a_crews, a_dbl, a_tape, a_law, a_ord, a_spur, a_cuts, a_cru, a_kf, a_tn⟩ := hI
  obtain ⟨w1, w4, w5⟩ := id a_crews
  have v2 := a_live.2.1
  obtain ⟨-, k4, -⟩ := id a_sky
  have fc : 0 ≤ x1 ∧ x1 < σ 11 0 11 → _ := fun hx => w4 x1.toNat (by omega)
  refine sx_leave h1 a_crews (by omega) (fun u1 u2 u3 τ eτ => ?_) (fun hc => ?_)
  · obtain ⟨-, ⟨e0, e1, e2, e3, e4⟩, wr⟩ := fc ⟨u1, u2⟩
    have t12 : τ 12 0 60 = σ 12 0 60 := by rw [eτ, rs_ne (by decide), rs_ne (by decide), rs_ne (by decide), rs_ne (by decide)]
    have t126 : τ 126 = σ 126 := by rw [eτ, rs_ne (by decide), rs_ne (by decide), rs_ne (by decide), rs_ne (by decide)]
    have t127 : τ 127 = σ 127 := by rw [eτ, rs_ne (by decide), rs_ne (by decide), rs_ne (by decide), rs_ne (by decide)]
    have t128 : τ 128 = σ 128 := by rw [eτ, rs_ne (by decide), rs_ne (by decide), rs_ne (by decide), rs_ne (by decide)]
    have t129 : τ 129 = σ 129 := by rw [eτ, rs_ne (by decide), rs_ne (by decide), rs_ne (by decide), rs_ne (by decide)]
    refine sm_leave h1 (by omega) (fun hx => ?_) (fun _ _ _ τ2 eτ2 => ⟨?_, ?_⟩) (fun hd => absurd ?_ hd)
    · rw [t126, t127, t129]
      omega
    · rw [t126, t127]
      omega
    · rw [t126, t127, t128, ← e1, ← e2, ← e3] at eτ2
      rw [eτ2, eτ]
      unfold Inv
      simp (decide := true) only [rs_ne, rs_fn, upj_eq, upj_ne, up_eq, up_ne, ra_ne, ra_fn, upr_eq, upr_ne, not_false_eq_true, ne_eq]
      refine ⟨?_, ?_, ?_, ?_, ?_, ?_, ?_, ?_, ?_, ?_, ?_, ?_, ?_, ?_, ?_, ?_, ?_, ?_, ?_⟩
      · exact a_sky
      · exact a_land
      · exact a_price
      · exact I_ints_up a_ints
      · exact a_logA
      · exact a_logB
      · exact a_live
      · exact a_lying
      · exact a_ways
      · exact I_crews_set a_crews (by omega) (fun i hi => by simp only [upj_ne hi]) (by simp (decide := true) only [upj_eq, up_eq, up_ne, not_false_eq_true, and_self]) (by omega)
      · exact a_dbl
      · exact a_tape
      · exact a_law
      · exact a_ord
      · exact a_spur
      · exact a_cuts
      · exact a_cru
      · exact a_kf
      · exact a_tn
    · rw [t129]
      omega
  · refine sm_leave h1 (by omega) (fun hx => by have := fc (by omega); omega) (fun y1 y2 y3 => absurd ⟨y1, by omega, by have := fc (by omega); omega⟩ hc) (fun hd => ⟨rfl, Inv_t hI0⟩)
