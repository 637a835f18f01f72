/-! how a log is sawn: both sides; best and board -/
theorem NXT_congr {G G' T : Nat → Int} {wd : Int} {w : Nat} (e : ∀ p, p < w → G' p = G p) : ∀ p, p ≤ w → NXT G' T wd p = NXT G T wd p := by
  intro p
  induction p with
  | zero => intro _; rfl
  | succ p ih =>
    intro hp
    have a := ih (by omega)
    unfold NXT
    unfold nxp
    rw [a, e p (by omega)]
theorem bgv_congr {G G' T : Nat → Int} {wd : Int} {w p : Nat} (e : ∀ p, p < w → G' p = G p) (hp : p < w) : bgv G' T wd p = bgv G T wd p := by
  unfold bgv
  rw [NXT_congr e p (by omega), e p hp]
theorem plan_eq {N wd : Nat} {Ok : Nat → Nat → Prop} {T Pr F F' G G' : Nat → Int} (hT : ∀ o, o < N → 1 ≤ T o) (h0 : F wd = 0) (h0' : F' wd = 0) (h : ∀ p, p < wd → CAt N Ok (valb T Pr wd) F p ∧ KAt N Ok (valb T Pr wd) F p (G p)) (h' : ∀ p, p < wd → CAt N Ok (valb T Pr wd) F' p ∧ KAt N Ok (valb T Pr wd) F' p (G' p)) : F' 0 = F 0 ∧ ∀ p, p < wd → bgv G' T wd p = bgv G T wd p := by
  have e : ∀ p, p ≤ wd → F' p = F p := fun p hp => C_uni hT (by rw [h0, h0']) (fun p hp => (h' p hp).1) (fun p hp => (h p hp).1) (wd - p) p (by omega)
  refine ⟨e 0 (by omega), fun p hp => bgv_congr (w := wd) (fun q hq => ?_) hp⟩
  exact KAt_uni (h q hq).2 (KAt_congr hT hq (fun i i1 i2 => e i i2) (h' q hq).2)
def PL (σ : St) (l : Nat) (F G f : Nat → Int) : Prop := F (σ 98 0 l).toNat = 0 ∧ (∀ p, p < (σ 98 0 l).toNat → CAt (σ 6 0 6).toNat (okX σ l (σ 7 0 3)) (valb (σ 55 0) (σ 58 0) ((σ 98 0 l).toNat : Nat)) F p ∧ KAt (σ 6 0 6).toNat (okX σ l (σ 7 0 3)) (valb (σ 55 0) (σ 58 0) ((σ 98 0 l).toNat : Nat)) F p (G p)) ∧ ∀ p, p < (σ 98 0 l).toNat → f p = bgv G (σ 55 0) ((σ 98 0 l).toNat : Nat) p
theorem planX {n : Nat} {σ : St} {l : Nat} {Q : St → Prop} (hI : Inv n σ) (hl : (l : Int) < σ 11 0 4) (q : ∀ F G f : Nat → Int, PL σ l F G f → Q (sta (sta (sta σ 61 0 F) 62 0 G) 63 0 f)) : wp_X6_plan σ l (σ 7 0 3) Q := by
  obtain ⟨a_sky, a_land, a_price, a_ints, a_logA, a_logB, a_live, a_lying, a_ways, a_crews, a_dbl, a_tape, a_law, a_ord, a_spur, a_cuts, a_cru, a_kf, a_tn⟩ := hI
  obtain ⟨v1, v2, v3, -⟩ := id a_live
  obtain ⟨o1, o2, o3⟩ := id a_ord
  obtain ⟨⟨k1, k2, k3⟩, k4, -⟩ := id a_sky
  obtain ⟨⟨f0, f1, f2, f3, f4, f6, -⟩, -, -, fb⟩ := a_logA l hl
  have l4 := v3 l hl
  exact sx_plan (wd := (σ 98 0 l).toNat) ⟨by omega, fun i hi => by have := o3 i hi; omega⟩ ⟨by omega, by omega⟩ ⟨by omega, by omega⟩ (by omega) (by omega) (by omega) ⟨by omega, by omega⟩ l4.2 (fun F G f h0 hb hf => q F G f ⟨h0, hb, hf⟩)
theorem planM {n : Nat} {σ τ : St} {l : Nat} {F G f : Nat → Int} {Q : Int → St → Prop} (hI : Inv n σ) (hl : (l : Int) < σ 11 0 4) (hk : ∀ k, 83 ≤ k → τ k = σ k) (h12 : ∀ i, ¬ i = 0 → τ 12 0 i = σ 12 0 i) (hP : PL σ l F G f) (q : ∀ F' f' : Nat → Int, (∀ p : Nat, (p : Int) < σ 98 0 l → f' p = f p) → Q (F 0) (sta (sta τ 139 0 F') 140 0 f')) : wp_X12_lays_ τ l Q := by
  obtain ⟨a_sky, a_land, a_price, a_ints, a_logA, a_logB, a_live, a_lying, a_ways, a_crews, a_dbl, a_tape, a_law, a_ord, a_spur, a_cuts, a_cru, a_kf, a_tn⟩ := hI
  obtain ⟨v1, v2, v3, -⟩ := id a_live
  obtain ⟨o1, ⟨t1, t2, t3, t4, t5, t6⟩, o3⟩ := id a_ord
  obtain ⟨⟨k1, k2, k3⟩, k4, -⟩ := id a_sky
  obtain ⟨⟨f0, f1, f2, f3, f4, f6, -⟩, -, -, fb⟩ := a_logA l hl
  have eok : okR τ l = okX σ l (σ 7 0 3) := by
    unfold okR okX
    rw [hk 133 (by decide), hk 134 (by decide), hk 135 (by decide), hk 137 (by decide), hk 97 (by decide), hk 98 (by decide), hk 101 (by decide), h12 1 (by decide), t1, t2, t3, t5, f1, f2, f4, k2]
  have e71 : τ 12 0 71 = σ 6 0 6 := by rw [h12 71 (by decide)]; exact o1.1
  have hO : OrdR τ := by
    unfold OrdR
    rw [e71, hk 133 (by decide), hk 134 (by decide), hk 135 (by decide), hk 136 (by decide), hk 137 (by decide), t1, t2, t3, t4, t5]
    exact ⟨by omega, fun i hi => by have := o3 i hi; omega⟩
  have hL : LgR τ l (σ 98 0 l).toNat := by
    unfold LgR
    rw [hk 98 (by decide), hk 97 (by decide), hk 101 (by decide), h12 1 (by decide)]
    exact ⟨by omega, by omega, by omega, by omega, ⟨by omega, by omega⟩, by omega, ⟨by omega, by omega⟩⟩
  refine sm_plan hO hL (fun F' G' f' h0 hb hf => ?_)
  rw [e71, eok, hk 133 (by decide), hk 136 (by decide), t1, t4] at hb
  rw [hk 133 (by decide), t1] at hf
  obtain ⟨p1, p2, p3⟩ := hP
  obtain ⟨e1, e2⟩ := plan_eq (fun o ho => (o3 o (by omega)).1) p1 h0 p2 hb
  rw [e1]
  exact q F' f' (fun p hp => by rw [hf p (by omega), p3 p (by omega)]; exact e2 p (by omega))
theorem pond_x {n : Nat} {σ : St} {x1 : Int} {Q : Option Nat → St → Prop} (hI : Inv n σ) (h1 : inR x1) (q1 : 0 ≤ x1 → x1 < σ 11 0 4 → σ 102 0 x1.toNat = 1 → Q (some x1.toNat) σ) (q0 : ¬ (0 ≤ x1 ∧ x1 < σ 11 0 4 ∧ σ 102 0 x1.toNat = 1) → Q none σ) : wp_X11_pondLogAt σ x1 Q := by
  obtain ⟨a_sky, a_land, a_price, a_ints, a_logA, a_logB, a_live, a_lying, a_ways, a_crews, a_dbl, a_tape, a_law, a_ord, a_spur, a_cuts, a_cru, a_kf, a_tn⟩ := hI
  obtain ⟨v1, v2, v3, -⟩ := id a_live
  unfold wp_X11_pondLogAt
  refine logAt_x a_live h1 (fun u1 u2 => ?_) (fun u => q0 (by omega))
  obtain ⟨⟨g5, g7, g8⟩, ⟨-, gh⟩, -⟩ := a_logB x1.toNat (by omega)
  have l4 := v3 x1.toNat (by omega)
  have hs : 0 ≤ σ 102 0 x1.toNat ∧ σ 102 0 x1.toNat ≤ 4 := by
    rcases gh with h | h | h | h | h <;> omega
  exact ⟨l4.2, ⟨by omega, by omega⟩, fun y => q0 (by omega), fun y => q1 u1 u2 (by omega)⟩
theorem pond_m {n : Nat} {σ τ : St} {x1 : Int} {Q : Int → St → Prop} (hI : Inv n σ) (h1 : inR x1) (hk : ∀ k, 83 ≤ k → τ k = σ k) (h12 : ∀ i, ¬ i = 0 → τ 12 0 i = σ 12 0 i) (q1 : 0 ≤ x1 → x1 < σ 11 0 4 → σ 102 0 x1.toNat = 1 → Q 1 τ) (q0 : ¬ (0 ≤ x1 ∧ x1 < σ 11 0 4 ∧ σ 102 0 x1.toNat = 1) → Q 0 τ) : wp_X12_isInPond τ x1 Q := by
  obtain ⟨a_sky, a_land, a_price, a_ints, a_logA, a_logB, a_live, a_lying, a_ways, a_crews, a_dbl, a_tape, a_law, a_ord, a_spur, a_cuts, a_cru, a_kf, a_tn⟩ := hI
  obtain ⟨v1, v2, v3, -⟩ := id a_live
  have e17 := h12 17 (by decide)
  have e102 := hk 102 (by decide)
  unfold wp_X12_isInPond wp_X12_isLog
  refine wi_m h1 in0 ⟨by omega, by omega⟩ (fun a b => ⟨Or.inr rfl, in1, fun c => absurd c (by decide), fun _ => ?_⟩) (fun a => ⟨Or.inl rfl, in0, fun _ => q0 (by omega), fun c => absurd rfl c⟩)
  obtain ⟨-, ⟨-, gh⟩, -⟩ := a_logB x1.toNat (by omega)
  have hs : 0 ≤ σ 102 0 x1.toNat ∧ σ 102 0 x1.toNat ≤ 4 := by
    rcases gh with h | h | h | h | h <;> omega
  rw [e102]
  exact ⟨by omega, by omega, ⟨by omega, by omega⟩, fun y => q0 (by omega), fun y => q1 (by omega) (by omega) y⟩
theorem Inv_pp {n : Nat} {σ : St} {F G f H g : Nat → Int} (hI : Inv n σ) : Inv (n + 1) (sta (sta (st (sta (sta (sta σ 61 0 F) 62 0 G) 63 0 f) 12 0 0 0) 139 0 H) 140 0 g) := by
  obtain ⟨a_sky, a_land, a_price, a_ints, a_logA, a_logB, a_live, a_lying, a_ways, a_crews, a_dbl, a_tape, a_law, a_ord, a_spur, a_cuts, a_cru, a_kf, a_tn⟩ := hI
  unfold Inv
  simp (decide := true) only [rs_ne, rs_fn, upj_eq, upj_ne, up_eq, up_ne, ra_ne, ra_fn, upr_eq, upr_ne, not_false_eq_true, ne_eq]
  refine ⟨?_, ?_, ?_, ?_, ?_, ?_, ?_, ?_, ?_, ?_, ?_, ?_, ?_, ?_, ?_, ?_, ?_, ?_, ?_⟩
  · exact a_sky
  · exact a_land
  · exact a_price
  · exact I_ints_up a_ints
  · exact a_logA
  · exact a_logB
  · exact a_live
  · exact a_lying
  · exact a_ways
  · exact a_crews
  · exact a_dbl
  · exact a_tape
  · exact a_law
  · exact a_ord
  · exact a_spur
  · exact a_cuts
  · exact a_cru
  · exact a_kf
  · exact a_tn
theorem Inv_p {n : Nat} {σ : St} {F G f : Nat → Int} (hI : Inv n σ) : Inv (n + 1) (st (sta (sta (sta σ 61 0 F) 62 0 G) 63 0 f) 12 0 0 0) := by
  obtain ⟨a_sky, a_land, a_price, a_ints, a_logA, a_logB, a_live, a_lying, a_ways, a_crews, a_dbl, a_tape, a_law, a_ord, a_spur, a_cuts, a_cru, a_kf, a_tn⟩ := hI
  unfold Inv
  simp (decide := true) only [rs_ne, rs_fn, upj_eq, upj_ne, up_eq, up_ne, ra_ne, ra_fn, upr_eq, upr_ne, not_false_eq_true, ne_eq]
  refine ⟨?_, ?_, ?_, ?_, ?_, ?_, ?_, ?_, ?_, ?_, ?_, ?_, ?_, ?_, ?_, ?_, ?_, ?_, ?_⟩
  · exact a_sky
  · exact a_land
  · exact a_price
  · exact I_ints_up a_ints
  · exact a_logA
  · exact a_logB
  · exact a_live
  · exact a_lying
  · exact a_ways
  · exact a_crews
  · exact a_dbl
  · exact a_tape
  · exact a_law
  · exact a_ord
  · exact a_spur
  · exact a_cuts
  · exact a_cru
  · exact a_kf
  · exact a_tn
theorem hk_t {σ τ : St} (e : τ = st σ 12 0 0 0) : (∀ k, 83 ≤ k → τ k = σ k) ∧ ∀ i, ¬ i = 0 → τ 12 0 i = σ 12 0 i := by
  subst e
  exact ⟨fun k hk => rs_ne (by omega), fun i hi => by rw [rs_eq, up_ne hi]⟩
theorem hk_p {σ τ : St} {F G f : Nat → Int} (e : τ = st (sta (sta (sta σ 61 0 F) 62 0 G) 63 0 f) 12 0 0 0) : (∀ k, 83 ≤ k → τ k = σ k) ∧ ∀ i, ¬ i = 0 → τ 12 0 i = σ 12 0 i := by
  subst e
  exact ⟨fun k hk => by rw [rs_ne (by omega), ra_ne (by omega), ra_ne (by omega), ra_ne (by omega)], fun i hi => by rw [rs_eq, up_ne hi, ra_ne (by decide), ra_ne (by decide), ra_ne (by decide)]⟩
theorem op_best {n : Nat} {σ : St} {x1 : Int} (hI : Inv n σ) (h1 : inR x1) : wp_X11_best σ x1 (fun r σ1 => wp_X12_best σ1 x1 (fun r2 σ2 => r2 = r ∧ Inv (n + 1) σ2)) := by
  unfold wp_X11_best
  refine pond_x hI h1 (fun u1 u2 u3 => ?_) (fun u => ?_)
  · refine planX hI (by omega) (fun F G f hP => ?_)
    intro τ eτ
    obtain ⟨hk, h12⟩ := hk_p eτ
    refine pond_m hI h1 hk h12 (fun _ _ _ => ⟨in1, fun z => absurd z (by decide), fun _ => ?_⟩) (fun z => absurd ⟨u1, u2, u3⟩ z)
    have e := planM (Q := fun r_6 σ_5 => r_6 = (sta (sta (sta σ 61 0 F) 62 0 G) 63 0 f) 61 0 (Int.toNat 0) ∧ Inv (n + 1) σ_5) hI (by omega) hk h12 hP (fun F' f' ef => ⟨?_, by rw [eτ]; exact Inv_pp hI⟩)
    · rw [show ((x1.toNat : Nat) : Int) = x1 by omega] at e
      exact e
    · rw [ra_ne (by decide), ra_ne (by decide), ra_eq]
      rfl
  · intro τ eτ
    obtain ⟨hk, h12⟩ := hk_t eτ
    exact pond_m hI h1 hk h12 (fun z1 z2 z3 => absurd ⟨z1, z2, z3⟩ u) (fun z => ⟨in0, fun _ => ⟨rfl, by rw [eτ]; exact Inv_t hI⟩, fun c => absurd rfl c⟩)
theorem op_board {n : Nat} {σ : St} {x1 x2 : Int} (hI : Inv n σ) (h1 : inR x1) (h2 : inR x2) : wp_X11_board σ x1 x2 (fun r σ1 => wp_X12_board σ1 x1 x2 (fun r2 σ2 => r2 = r ∧ Inv (n + 1) σ2)) := by
  have hI0 := hI
  obtain ⟨a_sky, a_land, a_price, a_ints, a_logA, a_logB, a_live, a_lying, a_ways, a_crews, a_dbl, a_tape, a_law, a_ord, a_spur, a_cuts, a_cru, a_kf, a_tn⟩ := hI
  obtain ⟨v1, v2, v3, -⟩ := id a_live
  have fw : 0 ≤ x1 ∧ x1 < σ 11 0 4 → σ 4 x1.toNat 2 = σ 98 0 x1.toNat ∧ 1 ≤ σ 98 0 x1.toNat ∧ σ 98 0 x1.toNat ≤ 32 := fun hx => by
    obtain ⟨⟨f0, f1, f2, -⟩, -, -, fb⟩ := a_logA x1.toNat (by omega)
    omega
  have hno : ¬ (0 ≤ x1 ∧ x1 < σ 11 0 4 ∧ σ 102 0 x1.toNat = 1 ∧ 0 ≤ x2 ∧ x2 < σ 98 0 x1.toNat) → wp_X12_board σ x1 x2 (fun r2 σ2 => r2 = -1 ∧ Inv (n + 1) σ2) := by
    intro hc τ eτ
    obtain ⟨hk, h12⟩ := hk_t eτ
    have hi : Inv (n + 1) τ := by rw [eτ]; exact Inv_t hI0
    refine pond_m hI0 h1 hk h12 (fun z1 z2 z3 => ⟨in1, fun z => absurd z (by decide), fun _ => ?_⟩) (fun z => ⟨in0, fun _ => ⟨rfl, hi⟩, fun c => absurd rfl c⟩)
    rw [hk 98 (by decide)]
    have w := fw ⟨z1, z2⟩
    exact ⟨by omega, by omega, wi_m h2 in0 ⟨by omega, by omega⟩ (fun a b => absurd ⟨z1, z2, z3, a, by omega⟩ hc) (fun a => ⟨in0, fun c => absurd rfl c, fun _ => ⟨rfl, hi⟩⟩)⟩
  unfold wp_X11_board
  refine pond_x hI0 h1 (fun u1 u2 u3 => ?_) (fun u => hno (by omega))
  have w := fw ⟨u1, u2⟩
  have l4 := v3 x1.toNat (by omega)
  refine ⟨l4.2, wi_x h2 in0 ⟨by omega, by omega⟩ (fun a b => ⟨in1, fun _ => ?_, fun c => absurd c (by decide)⟩) (fun a => ⟨in0, fun c => absurd rfl c, fun _ => hno (by omega)⟩)⟩
  refine planX hI0 (by omega) (fun F G f hP => ⟨by omega, by omega, ?_⟩)
  intro τ eτ
  obtain ⟨hk, h12⟩ := hk_p eτ
  refine pond_m hI0 h1 hk h12 (fun _ _ _ => ⟨in1, fun z => absurd z (by decide), fun _ => ?_⟩) (fun z => absurd ⟨u1, u2, u3⟩ z)
  rw [hk 98 (by decide)]
  refine ⟨by omega, by omega, wi_m h2 in0 ⟨by omega, by omega⟩ (fun a2 b2 => ⟨in1, fun _ => ?_, fun c => absurd c (by decide)⟩) (fun z => absurd ⟨a, by omega⟩ z)⟩
  have e := planM (Q := fun r_11 σ_10 => 0 ≤ x2 ∧ x2 < 40 ∧ (σ_10 140 0 (Int.toNat x2)) = (sta (sta (sta σ 61 0 F) 62 0 G) 63 0 f) 63 0 (Int.toNat x2) ∧ Inv (n + 1) σ_10) hI0 (by omega) hk h12 hP (fun F' f' ef => ⟨by omega, by omega, ?_, by rw [eτ]; exact Inv_pp hI0⟩)
  · rw [show ((x1.toNat : Nat) : Int) = x1 by omega] at e
    exact e
  · rw [ra_eq, ra_eq]
    exact ef _ (by omega)
