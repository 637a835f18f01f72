/-! hand, each, orderOf in whole: class against reference, with what is thrown -/
theorem Inv_o {n : Nat} {σ : St} {v : Int} (hI : Inv n σ) : Inv n (st σ 156 0 0 v) := by
  obtain ⟨a_sky, a_land, a_price, a_ints, a_logA, a_logB, a_live, a_lying, a_ways, a_crews, a_dbl, a_tape, a_law, a_ord, a_spur, a_cuts, a_cru, a_kf, a_tn⟩ := hI
  unfold Inv
  simp (decide := true) only [rs_ne, rs_fn, upj_eq, upj_ne, up_eq, up_ne, ra_ne, ra_fn, upr_eq, upr_ne, not_false_eq_true, ne_eq]
  exact ⟨a_sky, a_land, a_price, a_ints, a_logA, a_logB, a_live, a_lying, a_ways, a_crews, a_dbl, a_tape, a_law, a_ord, a_spur, a_cuts, a_cru, a_kf, a_tn⟩
theorem hx_loop {n0 : Nat} {σ : St} {x1 x2 : Int} {K : St → Int → Int → Int → Int → Int → Prop} {Q : Int → St → Prop} {Qx : St → Prop} (hI : Inv n0 σ) (hx : inR x1) (hn : 0 ≤ σ 11 0 16 ∧ σ 11 0 16 ≤ 60) (hs : ∀ i : Nat, (i : Int) < σ 11 0 16 → inR (σ 80 0 i))
    (q : K σ x2 (hnv x1 (σ 80 0) (hnD σ) (σ 11 0 16).toNat).1 (hnv x1 (σ 80 0) (hnD σ) (σ 11 0 16).toNat).2.1 (hnv x1 (σ 80 0) (hnD σ) (σ 11 0 16).toNat).2.2.1 (hnv x1 (σ 80 0) (hnD σ) (σ 11 0 16).toNat).2.2.2) :
    ∀ (k i n : Nat), i + k = (σ 11 0 16).toNat → k < n → wp_X11_hand_14 K Q Qx n σ x1 x2 (hnv x1 (σ 80 0) (hnD σ) i).1 (hnv x1 (σ 80 0) (hnD σ) i).2.1 (hnv x1 (σ 80 0) (hnD σ) i).2.2.1 (hnv x1 (σ 80 0) (hnD σ) i).2.2.2 i := by
  have hD := hnD_b hI
  intro k
  induction k with
  | zero =>
    intro i n hk hm
    obtain ⟨n, rfl⟩ : ∃ n', n = n' + 1 := ⟨n - 1, by omega⟩
    have e : i = (σ 11 0 16).toNat := by omega
    unfold wp_X11_hand_14
    refine ⟨⟨by omega, by omega⟩, ⟨by omega, by omega⟩, fun _ => ?_, fun z => absurd (by omega) z⟩
    rw [e]
    exact q
  | succ k ih =>
    intro i n hk hm
    obtain ⟨n, rfl⟩ : ∃ n', n = n' + 1 := ⟨n - 1, by omega⟩
    have hi : (i : Int) < σ 11 0 16 := by omega
    have nx := ih (i + 1) n (by omega) (by omega)
    have b := hnv_b (x := x1) (so := σ 80 0) hD i (by omega)
    have d := hD i (by omega)
    have e : hnv x1 (σ 80 0) (hnD σ) (i + 1) = if σ 80 0 i = x1 then hnS (hnD σ i) (hnv x1 (σ 80 0) (hnD σ) i) else hnv x1 (σ 80 0) (hnD σ) i := rfl
    rw [e] at nx
    obtain ⟨r, er⟩ : ∃ r, r = hnv x1 (σ 80 0) (hnD σ) i := ⟨_, rfl⟩
    rw [← er] at b nx ⊢
    obtain ⟨c, s, mn, mx⟩ := r
    dsimp only at b ⊢
    unfold wp_X11_hand_14
    rw [Int.toNat_natCast]
    refine ⟨⟨by omega, by omega⟩, ⟨by omega, by omega⟩, fun z => absurd z (by omega), fun _ => ⟨by omega, by omega, hs i hi, hx, fun y => ?_, fun y => sx_doubleDifference hI hi ?_⟩⟩
    · rw [if_neg y] at nx
      unfold wp_X11_hand_88
      rw [show ((i : Int) + 1) = ((i + 1 : Nat) : Int) by omega]
      exact nx
    · rw [if_pos y] at nx
      unfold hnS at nx
      dsimp only at nx
      have e9 : σ 82 0 i - scv (σ 98 0 (σ 81 0 i).toNat) (σ 97 0 (σ 81 0 i).toNat) (σ 11 0 12) = hnD σ i := rfl
      rw [e9]
      unfold wp_X11_hand_58 wp_X11_hand_76 wp_X11_hand_88
      rw [show ((i : Int) + 1) = ((i + 1 : Nat) : Int) by omega]
      have i3 : inR c := ⟨by omega, by omega⟩
      have iD : inR (hnD σ i) := ⟨by omega, by omega⟩
      have i5 : inR mn := ⟨by omega, by omega⟩
      have i6 : inR mx := ⟨by omega, by omega⟩
      refine ⟨i3, fun c0 => ⟨i5, iD, fun c1 => ⟨i3, fun _ => ⟨i6, iD, fun c2 w ew => ?_, fun c2 w ew => ?_⟩, fun z => absurd z c0⟩, fun c1 => ⟨i3, fun _ => ⟨i6, iD, fun c2 w ew => ?_, fun c2 w ew => ?_⟩, fun z => absurd z c0⟩⟩, fun c0 => ⟨i3, fun z => absurd c0 z, fun _ w ew => ?_⟩⟩
      · rw [if_neg c0, if_neg c0, if_neg (by omega), if_neg (by omega)] at nx
        rw [ew]
        exact nx
      · rw [if_neg c0, if_neg c0, if_neg (by omega), if_pos (by omega)] at nx
        rw [ew]
        exact nx
      · rw [if_neg c0, if_neg c0, if_pos (by omega), if_neg (by omega)] at nx
        rw [ew]
        exact nx
      · rw [if_neg c0, if_neg c0, if_pos (by omega), if_pos (by omega)] at nx
        rw [ew]
        exact nx
      · rw [if_pos c0, if_pos c0] at nx
        rw [ew]
        exact nx
theorem sx_hand {n : Nat} {σ : St} {x1 x2 : Int} {Q : Int → St → Prop} {Qx : St → Prop} (hI : Inv n σ) (h1 : inR x1) (h2 : inR x2) (q1 : 0 < (hnR σ x1).1 → 0 ≤ x2 → x2 ≤ 1 → Q (if x2 = 0 then fdq (hnR σ x1).2.1 (hnR σ x1).1 else (hnR σ x1).2.2.2 - (hnR σ x1).2.2.1) σ) (q0 : ¬ (0 < (hnR σ x1).1 ∧ 0 ≤ x2 ∧ x2 ≤ 1) → Qx σ) : wp_X11_hand σ x1 x2 Q Qx := by
  have hI0 := hI
  have hD := hnD_b hI0
  obtain ⟨a_sky, a_land, a_price, a_ints, a_logA, a_logB, a_live, a_lying, a_ways, a_crews, a_dbl, a_tape, a_law, a_ord, a_spur, a_cuts, a_cru, a_kf, a_tn⟩ := hI
  obtain ⟨⟨d1, d2, d3⟩, ⟨t1, t2, t3⟩, d5, d6, d7⟩ := id a_dbl
  have b := hnv_b (x := x1) (so := σ 80 0) hD (σ 11 0 16).toNat (Nat.le_refl _)
  have e := hx_loop (σ := σ) (x1 := x1) (x2 := x2) (K := wp_X11_hand_94 Q Qx) (Q := Q) (Qx := Qx) hI0 h1 (by omega) (fun i hi => by have := d5 i; exact ⟨by omega, by omega⟩) ?_ (σ 11 0 16).toNat 0 61 (by omega) (by omega)
  · exact ⟨61, e⟩
  · unfold hnR at q1 q0
    obtain ⟨r, er⟩ : ∃ r, r = hnv x1 (σ 80 0) (hnD σ) (σ 11 0 16).toNat := ⟨_, rfl⟩
    rw [← er] at q1 q0 b ⊢
    obtain ⟨c, s, mn, mx⟩ := r
    dsimp only at q1 q0 b ⊢
    unfold wp_X11_hand_94 wp_X11_hand_107
    refine ⟨⟨by omega, by omega⟩, fun z => q0 (by omega), fun z => wi_x h2 in0 in1 (fun a a2 => ⟨in1, fun _ => ⟨h2, fun y => ?_, fun y => ?_⟩, fun u => absurd u (by decide)⟩) (fun a => ⟨in0, fun u => absurd rfl u, fun _ => q0 (by omega)⟩)⟩
    · have q := q1 (by omega) a a2
      rw [if_neg y] at q
      exact q
    · have q := q1 (by omega) a a2
      rw [if_pos y] at q
      exact j_floorDiv (by omega) (by omega) q
theorem hnR_o {σ : St} {v x : Int} : hnR (st σ 156 0 0 v) x = hnR σ x := by
  unfold hnR hnD
  simp (decide := true) only [rs_ne, not_false_eq_true, ne_eq]
theorem th_0 {n : Nat} {τ : St} {r : Int} (hI : Inv n τ) (hr : τ 156 0 0 = r) : wp_X12_thrown (st τ 12 0 0 0) (fun t σ3 => t = 0 ∧ ((0 : Int) = 0 ∨ (0 : Int) = 1) ∧ ((0 : Int) = 0 → σ3 156 0 0 = r) ∧ Inv (n + 1) σ3) := by
  unfold wp_X12_thrown
  refine ⟨by rw [rs_eq, up_eq], Or.inl rfl, fun _ => ?_, Inv_t hI⟩
  rw [rs_ne (by decide)]
  exact hr
theorem th_1 {n : Nat} {τ : St} {r : Int} (hI : Inv n τ) : wp_X12_thrown (st τ 12 0 0 1) (fun t σ3 => t = 1 ∧ ((1 : Int) = 0 ∨ (1 : Int) = 1) ∧ ((1 : Int) = 0 → σ3 156 0 0 = r) ∧ Inv (n + 1) σ3) := by
  unfold wp_X12_thrown
  exact ⟨by rw [rs_eq, up_eq], Or.inr rfl, fun z => absurd z (by decide), Inv_t hI⟩
theorem op_hand {n : Nat} {σ : St} {x1 x2 : Int} (hI : Inv n σ) (h1 : inR x1) (h2 : inR x2) : wp_X11_hand σ x1 x2 (fun r σ1 => (fun k σ1 => wp_X12_hand σ1 x1 x2 (fun r2 σ2 => wp_X12_thrown σ2 (fun t σ3 => t = k ∧ (k = 0 ∨ k = 1) ∧ (k = 0 → σ3 156 0 0 = r2) ∧ Inv (n + 1) σ3))) 0 (st σ1 156 0 0 r)) (fun σ1 => (fun k σ1 => wp_X12_hand σ1 x1 x2 (fun r2 σ2 => wp_X12_thrown σ2 (fun t σ3 => t = k ∧ (k = 0 ∨ k = 1) ∧ (k = 0 → σ3 156 0 0 = r2) ∧ Inv (n + 1) σ3))) 1 σ1) := by
  refine sx_hand hI h1 h2 (fun a b c => ?_) (fun no => ?_)
  · refine sm_hand (Inv_o hI) h1 h2 (fun a2 b2 c2 => ?_) (fun no => absurd ⟨by rw [hnR_o]; exact a, b, c⟩ no)
    rw [hnR_o]
    exact th_0 (Inv_o hI) (by rw [rs_eq, up_eq])
  · exact sm_hand hI h1 h2 (fun a2 b2 c2 => absurd ⟨a2, b2, c2⟩ no) (fun _ => th_1 hI)
theorem sx_orderOf {n : Nat} {σ : St} {x1 x2 : Int} {Q : Int → St → Prop} {Qx : St → Prop} (hI : Inv n σ) (h1 : inR x1) (h2 : inR x2) (q1 : 0 ≤ x1 → x1 < σ 6 0 6 → 0 ≤ x2 → x2 ≤ 2 → ¬ (x2 = 2 ∧ σ 60 0 x1.toNat = -1) → Q (if x2 = 0 then σ 57 0 x1.toNat else if x2 = 1 then σ 60 0 x1.toNat else σ 59 0 x1.toNat - σ 60 0 x1.toNat) σ) (q0 : ¬ (0 ≤ x1 ∧ x1 < σ 6 0 6 ∧ 0 ≤ x2 ∧ x2 ≤ 2 ∧ ¬ (x2 = 2 ∧ σ 60 0 x1.toNat = -1)) → Qx σ) : wp_X11_orderOf σ x1 x2 Q Qx := by
  obtain ⟨a_sky, a_land, a_price, a_ints, a_logA, a_logB, a_live, a_lying, a_ways, a_crews, a_dbl, a_tape, a_law, a_ord, a_spur, a_cuts, a_cru, a_kf, a_tn⟩ := hI
  obtain ⟨o1, ⟨t1, t2, t3, t4, t5, t6⟩, o3⟩ := id a_ord
  have go : ∀ (a : 0 ≤ x1) (b : x1 < σ 6 0 6) (a2 : 0 ≤ x2) (b2 : x2 ≤ 2), ¬ (x2 = 2 ∧ σ 60 0 x1.toNat = -1) → wp_X11_orderOf_62 Q Qx σ x1 x2 (σ 60 0 x1.toNat) := by
    intro a b a2 b2 hn
    have q := q1 a b a2 b2 hn
    unfold wp_X11_orderOf_62
    refine ⟨h2, fun y => ⟨h2, fun y2 => ⟨a, by omega, ?_⟩, fun y2 => ?_⟩, fun y => ⟨a, by omega, ?_⟩⟩
    · rw [if_neg y, if_neg y2] at q
      exact q
    · rw [if_neg y, if_pos y2] at q
      exact q
    · rw [if_pos y] at q
      exact q
  unfold wp_X11_orderOf wp_X11_orderOf_26
  refine wi_x h1 in0 ⟨by omega, by omega⟩ (fun a b => ⟨in1, fun c => absurd c (by decide), fun _ => ?_⟩) (fun a => ⟨in0, fun _ => q0 (by omega), fun c => absurd rfl c⟩)
  refine wi_x h2 in0 ⟨by decide, by decide⟩ (fun a2 b2 => ⟨in1, fun _ => ⟨a, by omega, fun v ev => ?_⟩, fun c => absurd c (by decide)⟩) (fun a2 => ⟨in0, fun c => absurd rfl c, fun _ => q0 (by omega)⟩)
  rw [ev]
  refine ⟨h2, fun y => go a (by omega) a2 b2 (by omega), fun y => ⟨⟨by have := o3 x1.toNat (by omega); omega, by have := o3 x1.toNat (by omega); omega⟩, fun z => go a (by omega) a2 b2 (fun u => z u.2), fun z => q0 (fun u => u.2.2.2.2 ⟨y, z⟩)⟩⟩
theorem op_orderOf {n : Nat} {σ : St} {x1 x2 : Int} (hI : Inv n σ) (h1 : inR x1) (h2 : inR x2) : wp_X11_orderOf σ x1 x2 (fun r σ1 => (fun k σ1 => wp_X12_orderOf σ1 x1 x2 (fun r2 σ2 => wp_X12_thrown σ2 (fun t σ3 => t = k ∧ (k = 0 ∨ k = 1) ∧ (k = 0 → σ3 156 0 0 = r2) ∧ Inv (n + 1) σ3))) 0 (st σ1 156 0 0 r)) (fun σ1 => (fun k σ1 => wp_X12_orderOf σ1 x1 x2 (fun r2 σ2 => wp_X12_thrown σ2 (fun t σ3 => t = k ∧ (k = 0 ∨ k = 1) ∧ (k = 0 → σ3 156 0 0 = r2) ∧ Inv (n + 1) σ3))) 1 σ1) := by
  refine sx_orderOf hI h1 h2 (fun a b c d e => ?_) (fun no => ?_)
  · refine sm_orderOf (Inv_o hI) h1 h2 (fun a2 b2 c2 d2 e2 => ?_) (fun no => absurd ⟨a, by rw [rs_ne (by decide)]; exact b, c, d, by rw [rs_ne (by decide)]; exact e⟩ no)
    rw [rs_ne (by decide), rs_ne (by decide), rs_ne (by decide)]
    exact th_0 (Inv_o hI) (by rw [rs_eq, up_eq])
  · exact sm_orderOf hI h1 h2 (fun a2 b2 c2 d2 e2 => absurd ⟨a2, b2, c2, d2, e2⟩ no) (fun _ => th_1 hI)
theorem sx_each {n : Nat} {σ : St} {x1 x2 : Int} {Q : Int → St → Prop} {Qx : St → Prop} (hI : Inv n σ) (h1 : inR x1) (h2 : inR x2) (q1 : 0 ≤ x1 → x1 ≤ 3 → 0 ≤ x2 → x2 < σ 24 0 x1.toNat → ¬ un (fun q => σ 27 0 (40 * x1.toNat + q)) 0 (σ 24 0 x1.toNat).toNat = -1 → Q (egv (fun q => σ 26 0 (40 * x1.toNat + q)) (fun q => σ 27 0 (40 * x1.toNat + q)) x2.toNat (σ 24 0 x1.toNat).toNat) σ) (q0 : 0 ≤ x1 → x1 ≤ 3 → 0 ≤ x2 → x2 < σ 24 0 x1.toNat → un (fun q => σ 27 0 (40 * x1.toNat + q)) 0 (σ 24 0 x1.toNat).toNat = -1 → Qx σ) (qn : ¬ (0 ≤ x1 ∧ x1 ≤ 3 ∧ 0 ≤ x2 ∧ x2 < σ 24 0 x1.toNat) → Qx σ) : wp_X11_each σ x1 x2 Q Qx := by
  obtain ⟨a_sky, a_land, a_price, a_ints, a_logA, a_logB, a_live, a_lying, a_ways, a_crews, a_dbl, a_tape, a_law, a_ord, a_spur, a_cuts, a_cru, a_kf, a_tn⟩ := hI
  obtain ⟨⟨c1, c2, c3, c4⟩, cl, cf, ce, ch⟩ := id a_cru
  unfold wp_X11_each wp_X2_hasPlace wp_X2_hasRow wp_X2_hasNumber wp_X11_each_23
  refine wi_x h1 in0 ⟨by decide, by decide⟩ (fun a b => ⟨in1, fun c => absurd c (by decide), fun _ => ?_⟩) (fun a => ⟨in0, fun _ => ⟨in0, fun _ => ⟨in0, fun _ => qn (by omega), fun c => absurd rfl c⟩, fun c => absurd rfl c⟩, fun c => absurd rfl c⟩)
  have cb := cl x1.toNat (by omega)
  refine ⟨a, by omega, ⟨by omega, by omega⟩, fun d => ⟨in0, fun _ => ⟨in0, fun _ => qn (by omega), fun c => absurd rfl c⟩, fun c => absurd rfl c⟩, fun d => ⟨in1, fun c => absurd c (by decide), fun _ => ⟨a, by omega, ?_⟩⟩⟩
  refine wi_x h2 in0 ⟨by omega, by omega⟩ (fun a2 b2 => ⟨in1, fun c => absurd c (by decide), fun _ => ⟨in1, fun c => absurd c (by decide), fun _ => ?_⟩⟩) (fun a2 => ⟨in0, fun _ => ⟨in0, fun _ => qn (by omega), fun c => absurd rfl c⟩, fun c => absurd rfl c⟩)
  obtain ⟨r, rfl⟩ : ∃ r : Nat, x1 = r := ⟨x1.toNat, by omega⟩
  obtain ⟨p, rfl⟩ : ∃ p : Nat, x2 = p := ⟨x2.toNat, by omega⟩
  rw [Int.toNat_natCast] at q1 q0 b2 cb d
  rw [Int.toNat_natCast] at q1
  have ub := un_b (fun q => σ 27 0 (40 * r + q)) 0 (σ 24 0 r).toNat
  refine sx_nextFrom (p := 0) (by omega) cb.2 (by omega) ch ?_
  rw [show (σ 24 0 r).toNat - 0 = (σ 24 0 r).toNat by omega]
  unfold lofs
  by_cases hn : un (fun q => σ 27 0 (40 * r + q)) 0 (σ 24 0 r).toNat = -1
  · rw [if_pos hn]
    exact ⟨⟨by omega, by omega⟩, fun _ => ⟨in0, fun c => absurd rfl c, fun _ => q0 a b a2 (by omega) hn⟩, fun z => absurd rfl z⟩
  · rw [if_neg hn]
    refine ⟨⟨by omega, by omega⟩, fun z => absurd z (by omega), fun _ => ⟨in1, fun _ => ?_, fun c => absurd c (by decide)⟩⟩
    exact sx_eighthsAt (by omega) cb.2 (by omega) ch ce (q1 a b a2 (by omega) hn)
theorem Inv_ne {n : Nat} {σ : St} {s m : Int} (hI : Inv n σ) : Inv n (nr σ s m) := by
  unfold nr
  obtain ⟨a_sky, a_land, a_price, a_ints, a_logA, a_logB, a_live, a_lying, a_ways, a_crews, a_dbl, a_tape, a_law, a_ord, a_spur, a_cuts, a_cru, a_kf, a_tn⟩ := hI
  unfold Inv
  simp (decide := true) only [rs_ne, rs_fn, upj_eq, upj_ne, up_eq, up_ne, ra_ne, ra_fn, upr_eq, upr_ne, not_false_eq_true, ne_eq]
  exact ⟨a_sky, a_land, a_price, a_ints, a_logA, a_logB, a_live, a_lying, a_ways, a_crews, a_dbl, a_tape, a_law, a_ord, a_spur, a_cuts, a_cru, a_kf, a_tn⟩
theorem nr_o {σ : St} {s m : Int} : nr σ s m 156 0 = σ 156 0 := by
  unfold nr
  rw [rs_ne (by decide), rs_ne (by decide)]
theorem op_each {n : Nat} {σ : St} {x1 x2 : Int} (hI : Inv n σ) (h1 : inR x1) (h2 : inR x2) : wp_X11_each σ x1 x2 (fun r σ1 => (fun k σ1 => wp_X12_each σ1 x1 x2 (fun r2 σ2 => wp_X12_thrown σ2 (fun t σ3 => t = k ∧ (k = 0 ∨ k = 1) ∧ (k = 0 → σ3 156 0 0 = r2) ∧ Inv (n + 1) σ3))) 0 (st σ1 156 0 0 r)) (fun σ1 => (fun k σ1 => wp_X12_each σ1 x1 x2 (fun r2 σ2 => wp_X12_thrown σ2 (fun t σ3 => t = k ∧ (k = 0 ∨ k = 1) ∧ (k = 0 → σ3 156 0 0 = r2) ∧ Inv (n + 1) σ3))) 1 σ1) := by
  refine sx_each hI h1 h2 (fun a b c d e => ?_) (fun a b c d e => ?_) (fun no => ?_)
  · have o24 : ∀ v, st σ 156 0 0 v 24 0 = σ 24 0 := fun v => by rw [rs_ne (by decide)]
    have o26 : ∀ v, st σ 156 0 0 v 26 0 = σ 26 0 := fun v => by rw [rs_ne (by decide)]
    have o27 : ∀ v, st σ 156 0 0 v 27 0 = σ 27 0 := fun v => by rw [rs_ne (by decide)]
    refine sm_each (Inv_o hI) h1 h2 (fun a2 b2 c2 d2 e2 s m => ?_) (fun a2 b2 c2 d2 e2 => absurd (by rw [o24, o27] at e2; exact e2) e) (fun no => absurd ⟨a, b, c, by rw [o24]; exact d⟩ no)
    rw [o24, o26, o27]
    exact th_0 (Inv_ne (Inv_o hI)) (by rw [nr_o, rs_eq, up_eq])
  · exact sm_each hI h1 h2 (fun a2 b2 c2 d2 e2 => absurd e e2) (fun a2 b2 c2 d2 e2 s m => th_1 (Inv_ne hI)) (fun no => absurd ⟨a, b, c, d⟩ no)
  · exact sm_each hI h1 h2 (fun a2 b2 c2 d2 e2 => absurd ⟨a2, b2, c2, d2⟩ no) (fun a2 b2 c2 d2 e2 => absurd ⟨a2, b2, c2, d2⟩ no) (fun no => th_1 hI)
