/-! row, write, cruise; what the reference tells of each -/
theorem Inv_nr {n : Nat} {σ : St} {v s m : Int} (hI : Inv n σ) : Inv (n + 1) (nr (st σ 12 0 0 v) s m) := by
  unfold nr
  obtain ⟨a_sky, a_land, a_price, a_ints, a_logA, a_logB, a_live, a_lying, a_ways, a_crews, a_dbl, a_tape, a_law, a_ord, a_spur, a_cuts, a_cru, a_kf, a_tn⟩ := hI
  unfold Inv
  simp (decide := true) only [rs_ne, rs_fn, upj_eq, upj_ne, up_eq, up_ne, ra_ne, ra_fn, upr_eq, upr_ne, not_false_eq_true, ne_eq]
  refine ⟨?_, ?_, ?_, ?_, ?_, ?_, ?_, ?_, ?_, ?_, ?_, ?_, ?_, ?_, ?_, ?_, ?_, ?_, ?_⟩
  · exact a_sky
  · exact a_land
  · exact a_price
  · exact I_ints_up a_ints
  · exact a_logA
  · exact a_logB
  · exact a_live
  · exact a_lying
  · exact a_ways
  · exact a_crews
  · exact a_dbl
  · exact a_tape
  · exact a_law
  · exact a_ord
  · exact a_spur
  · exact a_cuts
  · exact a_cru
  · exact a_kf
  · exact a_tn
theorem crum_loop {σ : St} {r : Nat} {what : Int} {Q : Int → St → Prop} (f : Nat → Int) (hf : ∀ p, -2000000 ≤ f p ∧ f p ≤ 2000000) (hr : r < 4) (hl : 0 ≤ σ 152 0 r ∧ σ 152 0 r ≤ 40) (hw : inR what) (hh : ∀ i, 0 ≤ σ 155 0 i ∧ σ 155 0 i ≤ 1) (he : ∀ i, -2000000 ≤ σ 154 0 i ∧ σ 154 0 i ≤ 2000000) (ef : ∀ p, p < (σ 152 0 r).toNat → egv (fun q => σ 154 0 (40 * r + q)) (fun q => σ 155 0 (40 * r + q)) p (σ 152 0 r).toNat = f p) (hn : ¬ un (fun q => σ 155 0 (40 * r + q)) 0 (σ 152 0 r).toNat = -1)
    (q : ∀ s m, Q (if what = 0 then sumv f (σ 152 0 r).toNat else mxv f ((σ 152 0 r).toNat - 1) - mnv f ((σ 152 0 r).toNat - 1)) (nr σ s m)) :
    ∀ (k i n : Nat) (s m : Int), (i : Int) + 1 + k = σ 152 0 r → k < n → wp_X12_cruise_49 (wp_X12_cruise_135 Q) Q n (nr σ s m) r what (sumv f (i + 1)) (mnv f i) (mxv f i) ((i + 1 : Nat) : Int) ((i + 1 : Nat) : Int) := by
  have r152 : ∀ s m, nr σ s m 152 = σ 152 := fun s m => nr_ne (by decide)
  have r154 : ∀ s m, nr σ s m 154 = σ 154 := fun s m => nr_ne (by decide)
  have r155 : ∀ s m, nr σ s m 155 = σ 155 := fun s m => nr_ne (by decide)
  intro k
  induction k with
  | zero =>
    intro i n s m hi hn9
    obtain ⟨n, rfl⟩ : ∃ n', n = n' + 1 := ⟨n - 1, by omega⟩
    have qq := q s m
    unfold wp_X12_cruise_49 wp_X12_cruise_135
    rw [Int.toNat_natCast, r152]
    rw [show (σ 152 0 r).toNat = i + 1 by omega, show i + 1 - 1 = i by omega] at qq
    refine ⟨by omega, by omega, ⟨by omega, by omega⟩, ⟨by omega, by omega⟩, fun _ => ⟨hw, fun c => ?_, fun c => ?_⟩, fun z => absurd (by omega) z⟩
    · rw [if_neg c] at qq
      exact qq
    · rw [if_pos c] at qq
      exact qq
  | succ k ih =>
    intro i n s m hi hn9
    obtain ⟨n, rfl⟩ : ∃ n', n = n' + 1 := ⟨n - 1, by omega⟩
    have b1 := mnx_b hf i
    have b2 := hf (i + 1)
    unfold wp_X12_cruise_49
    rw [Int.toNat_natCast, r152]
    refine ⟨by omega, by omega, ⟨by omega, by omega⟩, ⟨by omega, by omega⟩, fun z => absurd z (by omega), fun _ => ?_⟩
    refine sm_told hr (by rw [r152]; omega) (by rw [r152]; omega) (by rw [r155]; exact hh) (by rw [r154]; exact he) (fun s' m' hm0 hm2 hm => ?_)
    rw [r152, r155] at hm
    rw [r152, r154, r155, nr_nr, ef (i + 1) (by omega), nr_2]
    have fin := ih (i + 1) n s' m' (by omega) (by omega)
    unfold wp_X12_cruise_91 wp_X12_cruise_98 wp_X12_cruise_112 wp_X12_cruise_119 wp_X12_cruise_129
    have nm : ¬ m' = 0 := fun z => hn (hm.mp z)
    have mns : mnv f (i + 1) = min (mnv f i) (f (i + 1)) := rfl
    have mxs : mxv f (i + 1) = max (mxv f i) (f (i + 1)) := rfl
    have sms : sumv f (i + 1 + 1) = sumv f (i + 1) + f (i + 1) := rfl
    rw [mns, mxs, sms] at fin
    have c1 : ((i + 1 : Nat) : Int) + 1 = ((i + 1 + 1 : Nat) : Int) := by omega
    have fB : inR (f (i + 1)) := ⟨by omega, by omega⟩
    have fC : inR (mnv f i) := ⟨by omega, by omega⟩
    have fD : inR (mxv f i) := ⟨by omega, by omega⟩
    refine ⟨⟨by omega, by omega⟩, fun _ => ⟨⟨by omega, by omega⟩, fun z => absurd z (by omega), fun _ => ⟨fB, fC, fun d => ⟨⟨by omega, by omega⟩, fun z => absurd z (by omega), fun _ => ⟨fB, fD, fun d2 v9 e9 => ?_, fun d2 v9 e9 => ?_⟩⟩, fun d => ⟨⟨by omega, by omega⟩, fun z => absurd z (by omega), fun _ => ⟨fB, fD, fun d2 v9 e9 => ?_, fun d2 v9 e9 => ?_⟩⟩⟩⟩, fun z => absurd z nm⟩
    · rw [show min (mnv f i) (f (i + 1)) = mnv f i by omega, show max (mxv f i) (f (i + 1)) = mxv f i by omega] at fin
      rw [e9, c1]
      exact fin
    · rw [show min (mnv f i) (f (i + 1)) = mnv f i by omega, show max (mxv f i) (f (i + 1)) = f (i + 1) by omega] at fin
      rw [e9, c1]
      exact fin
    · rw [show min (mnv f i) (f (i + 1)) = f (i + 1) by omega, show max (mxv f i) (f (i + 1)) = mxv f i by omega] at fin
      rw [e9, c1]
      exact fin
    · rw [show min (mnv f i) (f (i + 1)) = f (i + 1) by omega, show max (mxv f i) (f (i + 1)) = f (i + 1) by omega] at fin
      rw [e9, c1]
      exact fin
/-- a row without a number: nothing is added -/
theorem crum0_loop {σ : St} {r : Nat} {what : Int} {Q : Int → St → Prop} (hr : r < 4) (hl : 0 ≤ σ 152 0 r ∧ σ 152 0 r ≤ 40) (hw : inR what) (hh : ∀ i, 0 ≤ σ 155 0 i ∧ σ 155 0 i ≤ 1) (he : ∀ i, -2000000 ≤ σ 154 0 i ∧ σ 154 0 i ≤ 2000000) (hn : un (fun q => σ 155 0 (40 * r + q)) 0 (σ 152 0 r).toNat = -1) (q : ∀ s m, Q 0 (nr σ s m)) :
    ∀ (k i n : Nat) (s m : Int), (i : Int) + k = σ 152 0 r → k < n → wp_X12_cruise_49 (wp_X12_cruise_135 Q) Q n (nr σ s m) r what 0 0 0 0 i := by
  have r152 : ∀ s m, nr σ s m 152 = σ 152 := fun s m => nr_ne (by decide)
  have r154 : ∀ s m, nr σ s m 154 = σ 154 := fun s m => nr_ne (by decide)
  have r155 : ∀ s m, nr σ s m 155 = σ 155 := fun s m => nr_ne (by decide)
  intro k
  induction k with
  | zero =>
    intro i n s m hi hn9
    obtain ⟨n, rfl⟩ : ∃ n', n = n' + 1 := ⟨n - 1, by omega⟩
    unfold wp_X12_cruise_49 wp_X12_cruise_135
    rw [Int.toNat_natCast, r152]
    exact ⟨by omega, by omega, ⟨by omega, by omega⟩, ⟨by omega, by omega⟩, fun _ => ⟨hw, fun _ => q s m, fun _ => q s m⟩, fun z => absurd (by omega) z⟩
  | succ k ih =>
    intro i n s m hi hn9
    obtain ⟨n, rfl⟩ : ∃ n', n = n' + 1 := ⟨n - 1, by omega⟩
    unfold wp_X12_cruise_49
    rw [Int.toNat_natCast, r152]
    refine ⟨by omega, by omega, ⟨by omega, by omega⟩, ⟨by omega, by omega⟩, fun z => absurd z (by omega), fun _ => ?_⟩
    refine sm_told hr (by rw [r152]; omega) (by rw [r152]; omega) (by rw [r155]; exact hh) (by rw [r154]; exact he) (fun s' m' hm0 hm2 hm => ?_)
    rw [r152, r155] at hm
    rw [nr_nr, nr_2]
    unfold wp_X12_cruise_129
    rw [show ((i : Int) + 1) = ((i + 1 : Nat) : Int) by omega]
    exact ⟨⟨by omega, by omega⟩, fun z => absurd (hm.mpr hn) z, fun _ => ih (i + 1) n s' m' (by omega) (by omega)⟩
theorem op_cruise {n : Nat} {σ : St} {x1 x2 : Int} (hI : Inv n σ) (h1 : inR x1) (h2 : inR x2) : wp_X11_cruise σ x1 x2 (fun r σ1 => wp_X12_cruise σ1 x1 x2 (fun r2 σ2 => r2 = r ∧ Inv (n + 1) σ2)) := by
  have hI0 := hI
  obtain ⟨a_sky, a_land, a_price, a_ints, a_logA, a_logB, a_live, a_lying, a_ways, a_crews, a_dbl, a_tape, a_law, a_ord, a_spur, a_cuts, a_cru, a_kf, a_tn⟩ := hI
  obtain ⟨⟨c1, c2, c3, c4⟩, cl, cf, ce, ch⟩ := id a_cru
  have hno : ¬ (0 ≤ x1 ∧ x1 ≤ 3 ∧ ¬ σ 24 0 x1.toNat = -1 ∧ 0 ≤ x2 ∧ x2 ≤ 1) → wp_X12_cruise σ x1 x2 (fun r2 σ2 => r2 = -1 ∧ Inv (n + 1) σ2) := by
    intro hc τ eτ
    have t1 : τ 152 0 = σ 24 0 := by rw [eτ, rs_ne (by decide), c1]
    have hi : Inv (n + 1) τ := by rw [eτ]; exact Inv_t hI0
    refine wi_m h1 in0 ⟨by decide, by decide⟩ (fun a b => ⟨in1, fun c => absurd c (by decide), fun _ => ?_⟩) (fun a => ⟨in0, fun _ => ⟨rfl, hi⟩, fun c => absurd rfl c⟩)
    have := cl x1.toNat (by omega)
    rw [t1]
    exact ⟨by omega, by omega, ⟨by omega, by omega⟩, fun _ => ⟨rfl, hi⟩, fun d => wi_m h2 in0 ⟨by decide, by decide⟩ (fun a2 b2 => absurd ⟨a, b, d, a2, b2⟩ hc) (fun a2 => ⟨in0, fun c => absurd rfl c, fun _ => ⟨rfl, hi⟩⟩)⟩
  unfold wp_X11_cruise wp_X2_hasRow wp_X2_hasNumber
  refine wi_x h1 in0 ⟨by decide, by decide⟩ (fun a b => ⟨in1, fun c => absurd c (by decide), fun _ => ?_⟩) (fun a => ⟨in0, fun _ => ⟨in0, fun _ => hno (by omega), fun c => absurd rfl c⟩, fun c => absurd rfl c⟩)
  have cb := cl x1.toNat (by omega)
  refine ⟨by omega, by omega, ⟨by omega, by omega⟩, fun d => ⟨in0, fun _ => hno (fun z => z.2.2.1 d), fun c => absurd rfl c⟩, fun d => ⟨in1, fun c => absurd c (by decide), fun _ => ?_⟩⟩
  refine wi_x h2 in0 ⟨by decide, by decide⟩ (fun a2 b2 => ⟨in1, fun _ => ?_, fun c => absurd c (by decide)⟩) (fun a2 => ⟨in0, fun c => absurd rfl c, fun _ => hno (by omega)⟩)
  obtain ⟨r, er⟩ : ∃ r : Nat, (r : Int) = x1 := ⟨x1.toNat, by omega⟩
  have er2 : x1.toNat = r := by omega
  rw [er2] at cb d
  have hr4 : r < 4 := by omega
  rw [← er]
  have mm : ∀ v : Int, (¬ un (fun q => σ 27 0 (40 * r + q)) 0 (σ 24 0 r).toNat = -1 → v = if x2 = 0 then sumv (rowv σ r) (σ 24 0 r).toNat else mxv (rowv σ r) ((σ 24 0 r).toNat - 1) - mnv (rowv σ r) ((σ 24 0 r).toNat - 1)) → (un (fun q => σ 27 0 (40 * r + q)) 0 (σ 24 0 r).toNat = -1 → v = 0) → wp_X12_cruise σ r x2 (fun r2 σ2 => r2 = v ∧ Inv (n + 1) σ2) := by
    intro v hv hv0 τ eτ
    have t1 : τ 152 0 = σ 24 0 := by rw [eτ, rs_ne (by decide), c1]
    have t3 : τ 154 0 = σ 26 0 := by rw [eτ, rs_ne (by decide), c3]
    have t4 : τ 155 0 = σ 27 0 := by rw [eτ, rs_ne (by decide), c4]
    have hi : ∀ s m, Inv (n + 1) (nr τ s m) := fun s m => by rw [eτ]; exact Inv_nr hI0
    have nrs : nr τ (τ 12 0 101) (τ 12 0 102) = τ := by
      rw [nr_sta, up_self, up_self, sta_self]
    refine wi_m ⟨by omega, by omega⟩ in0 ⟨by decide, by decide⟩ (fun _ _ => ⟨in1, fun c => absurd c (by decide), fun _ => ?_⟩) (fun z => absurd (by omega) z)
    rw [Int.toNat_natCast, t1]
    refine ⟨by omega, by omega, ⟨by omega, by omega⟩, fun z => absurd z d, fun _ => wi_m h2 in0 ⟨by decide, by decide⟩ (fun _ _ => ⟨in1, fun _ => ?_, fun c => absurd c (by decide)⟩) (fun z => absurd ⟨a2, b2⟩ z)⟩
    by_cases hn : un (fun q => σ 27 0 (40 * r + q)) 0 (σ 24 0 r).toNat = -1
    · have e := crum0_loop (σ := τ) (r := r) (what := x2) (Q := fun r2 σ2 => r2 = v ∧ Inv (n + 1) σ2) hr4 (by rw [t1]; omega) h2 (by rw [t4]; exact ch) (by rw [t3]; exact ce) (by rw [t1, t4]; exact hn) (fun s m => ⟨(hv0 hn).symm, hi s m⟩) (σ 24 0 r).toNat 0 42 (τ 12 0 101) (τ 12 0 102) (by rw [t1]; omega) (by omega)
      rw [nrs] at e
      exact ⟨42, e⟩
    · have hlen : 1 ≤ σ 24 0 r := by
        rcases Int.lt_or_le 0 (σ 24 0 r) with z | z
        · omega
        · exact absurd (by rw [show (σ 24 0 r).toNat = 0 by omega]; rfl) hn
      have fb : ∀ p, -2000000 ≤ rowv σ r p ∧ rowv σ r p ≤ 2000000 := fun p => egv_b (fun i => ce _)
      have ef : ∀ p, p < (τ 152 0 r).toNat → egv (fun q => τ 154 0 (40 * r + q)) (fun q => τ 155 0 (40 * r + q)) p (τ 152 0 r).toNat = rowv σ r p := fun p _ => by
        rw [t1, t3, t4]
        rfl
      have e := crum_loop (σ := τ) (r := r) (what := x2) (Q := fun r2 σ2 => r2 = v ∧ Inv (n + 1) σ2) (rowv σ r) fb hr4 (by rw [t1]; omega) h2 (by rw [t4]; exact ch) (by rw [t3]; exact ce) ef (by rw [t1, t4]; exact hn) (fun s m => ⟨by rw [t1]; exact (hv hn).symm, hi s m⟩) ((σ 24 0 r).toNat - 1) 0 42
      refine ⟨43, ?_⟩
      unfold wp_X12_cruise_49
      rw [Int.toNat_natCast, t1]
      refine ⟨by omega, by omega, in0, ⟨by omega, by omega⟩, fun z => absurd z (by omega), fun _ => ?_⟩
      refine sm_told (p := 0) hr4 (by rw [t1]; omega) (by rw [t1]; omega) (by rw [t4]; exact ch) (by rw [t3]; exact ce) (fun s' m' hm0 hm2 hm => ?_)
      rw [t1, t4] at hm
      rw [ef 0 (by rw [t1]; omega), nr_2]
      have nm : ¬ m' = 0 := fun z => hn (hm.mp z)
      have e2 := e s' m' (by rw [t1]; omega) (by omega)
      unfold wp_X12_cruise_91 wp_X12_cruise_98 wp_X12_cruise_112 wp_X12_cruise_119 wp_X12_cruise_129
      refine ⟨⟨by omega, by omega⟩, fun _ => ⟨in0, fun _ => ⟨in0, fun _ v9 e9 => ?_, fun z => absurd rfl z⟩, fun z => absurd rfl z⟩, fun z => absurd z nm⟩
      rw [show sumv (rowv σ r) (0 + 1) = 0 + rowv σ r 0 from rfl, show mnv (rowv σ r) 0 = rowv σ r 0 from rfl, show mxv (rowv σ r) 0 = rowv σ r 0 from rfl] at e2
      rw [e9]
      exact e2
  have ub := un_b (fun q => σ 27 0 (40 * r + q)) 0 (σ 24 0 r).toNat
  refine sx_nextFrom (p := 0) hr4 cb.2 (by omega) ch ?_
  rw [show (σ 24 0 r).toNat - 0 = (σ 24 0 r).toNat by omega]
  unfold lofs
  by_cases hn : un (fun q => σ 27 0 (40 * r + q)) 0 (σ 24 0 r).toNat = -1
  · rw [if_pos hn]
    exact ⟨⟨by omega, by omega⟩, fun _ => ⟨in0, fun c => absurd rfl c, fun _ => mm 0 (fun z => absurd hn z) (fun _ => rfl)⟩, fun z => absurd rfl z⟩
  · rw [if_neg hn]
    have hlen : 1 ≤ σ 24 0 r := by omega
    refine ⟨⟨by omega, by omega⟩, fun z => absurd z (by omega), fun _ => ⟨in1, fun _ => ⟨h2, fun e => ?_, fun e => ?_⟩, fun c => absurd c (by decide)⟩⟩
    · unfold wp_X2_spreadOf
      refine sx_eighthsAt (p := 0) hr4 cb.2 (by omega) ch ce ⟨42, ?_⟩
      exact spr_loop hr4 cb.2 ch ce (mm _ (fun _ => by rw [if_neg e]) (fun z => absurd z hn)) ((σ 24 0 r).toNat - 1) 0 42 (by omega) (by omega)
    · exact ⟨42, sumx_loop hr4 cb.2 ch ce (mm _ (fun _ => by rw [if_pos e]) (fun z => absurd z hn)) (σ 24 0 r).toNat 0 42 (by omega) (by omega)⟩
