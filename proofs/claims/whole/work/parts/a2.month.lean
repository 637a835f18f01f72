/-! the month's end, on both sides -/
theorem moG_at {rt : Nat → Int} {V : St} : ∀ i, ∀ j, i ≤ j → moG rt V i 126 0 j = V 126 0 j ∧ moG rt V i 127 0 j = V 127 0 j ∧ moG rt V i 128 0 j = V 128 0 j := by
  intro i
  induction i with
  | zero => intro j _; exact ⟨rfl, rfl, rfl⟩
  | succ i ih =>
    intro j hj
    have a := ih j (by omega)
    show moS (rt i) (moG rt V i) i 126 0 j = V 126 0 j ∧ moS (rt i) (moG rt V i) i 127 0 j = V 127 0 j ∧ moS (rt i) (moG rt V i) i 128 0 j = V 128 0 j
    unfold moS
    split
    · have e : ¬ j = i := by omega
      simp (decide := true) only [rs_ne, rs_eq, not_false_eq_true, up_ne e]
      exact a
    · exact a
theorem I_crews_mo {cc cc2 lc td rt v1 v2 v3 : Int} {C : Nat → Nat → Int} {f79 a1 b2 e2 o2 p2 l2 : Nat → Int} {j : Nat} (a : I_crews cc cc2 lc td C f79 a1 b2 e2 o2 p2 l2) (hj : (j : Int) < cc) (hl : 0 ≤ lc) (ho : o2 j ≤ 10000 * td) (hr : 0 ≤ rt ∧ rt ≤ 9999) (e2v : v2 = o2 j + rt - min (e2 j) (o2 j + rt)) : I_crews cc cc2 lc td (upj (upj (upj (upj C j 2 v1) j 2 v2) j 3 v3) j 1 0) f79 a1 b2 (up e2 j 0) (up o2 j v2) (up p2 j v3) l2 := by
  obtain ⟨g1, g2, g3⟩ := a
  refine ⟨g1, fun i hi => ?_, fun i hi => ?_⟩
  · obtain ⟨y1, ⟨c0, c1, c2, c3, c4⟩, y3⟩ := g2 i hi
    by_cases e : i = j
    · subst e
      have q1 : up p2 i v3 i = v3 := up_eq
      have q2 : up o2 i v2 i = v2 := up_eq
      have q3 : up e2 i 0 i = 0 := up_eq
      rw [upj_eq, upj_eq, upj_eq, upj_eq, q1, q2, q3]
      refine ⟨y1, ⟨c0, rfl, rfl, rfl, c4⟩, ?_⟩
      have m1 : min (e2 i) (o2 i + rt) ≤ o2 i + rt := Int.min_le_right _ _
      have m2 : 0 ≤ min (e2 i) (o2 i + rt) := by
        by_cases c : e2 i ≤ o2 i + rt
        · rw [Int.min_eq_left c]; omega
        · rw [Int.min_eq_right (by omega)]; omega
      omega
    · rw [upj_ne e, upj_ne e, upj_ne e, upj_ne e, up_ne e, up_ne e, up_ne e]
      exact ⟨y1, ⟨c0, c1, c2, c3, c4⟩, y3⟩
  · rw [up_ne (by omega), up_ne (by omega), up_ne (by omega)]
    exact g3 i hi
theorem cmx_loop {n : Nat} {σ S0 : St} {cc : Nat} {rt : Nat → Int} {Q : St → Prop} (hI : Inv n σ) (hS : FrD σ S0) (hcc : σ 11 0 11 = cc) (hr : ∀ w, 0 ≤ rt w ∧ rt w ≤ 9999) (hrt : ∀ w : Nat, ∀ f r, FcCrew σ w f → NumF σ f 3 r → r = rt w) (q : ∀ S, RelC S (moG rt σ cc) (σ 11 0 4) (σ 7 0 3 + 1) → (∀ k, ¬ k = 1 → ¬ k = 75 → S k = S0 k) → Q S) :
    ∀ (k i f : Nat) (S : St), i + k = cc → k < f → RelC S (moG rt σ i) (σ 11 0 4) (σ 7 0 3 + 1) → (∀ k, ¬ k = 1 → ¬ k = 75 → S k = S0 k) → wp_X11_closeMonth_2 Q f S i := by
  have hI0 := hI
  obtain ⟨a_sky, a_land, a_price, a_ints, a_logA, a_logB, a_live, a_lying, a_ways, a_crews, a_dbl, a_tape, a_law, a_ord, a_spur, a_cuts, a_cru, a_kf, a_tn⟩ := hI
  obtain ⟨⟨u1, u2, u3⟩, cr2, cr3⟩ := id a_crews
  have v2 := a_live.2.1
  have k4 := a_sky.2.1
  have fS := fun (k : Nat) (h : k < 4 ∨ (4 < k ∧ k < 31) ∨ (37 < k ∧ k < 75) ∨ 75 < k) => hS k (by omega) (by omega) (by omega) (by omega) (by omega) (by omega)
  intro k
  induction k with
  | zero =>
    intro i f S hk hf hR hF
    obtain ⟨f, rfl⟩ : ∃ n', f = n' + 1 := ⟨f - 1, by omega⟩
    have e : i = cc := by omega
    subst e
    unfold wp_X11_closeMonth_2
    rw [hF 11 (by decide) (by decide), fS 11 (by omega), hcc]
    exact ⟨⟨by omega, by omega⟩, ⟨by omega, by omega⟩, fun _ => q S hR hF, fun z => absurd (Int.le_refl _) z⟩
  | succ k ih =>
    intro i f S hk hf hR hF
    obtain ⟨f, rfl⟩ : ∃ n', f = n' + 1 := ⟨f - 1, by omega⟩
    have ff := fun (k : Nat) (h : k = 0 ∨ k = 2 ∨ k = 3 ∨ (4 < k ∧ k < 31) ∨ (37 < k ∧ k < 75) ∨ 75 < k) => (hF k (by omega) (by omega)).trans (fS k (by omega))
    have nx := fun S => ih (i + 1) f S (by omega) (by omega)
    have nxt : moG rt σ (i + 1) = moS (rt i) (moG rt σ i) i := rfl
    have ga := moG_at (rt := rt) (V := σ) i i (Nat.le_refl _)
    have g129 : moG rt σ i 129 = σ 129 := moG_k (by decide) (by decide) (by decide) i
    rw [nxt] at nx
    obtain ⟨G, eG⟩ : ∃ G, G = moG rt σ i := ⟨_, rfl⟩
    rw [← eG] at nx hR ga g129
    have s11 : S 11 0 11 = cc := by rw [ff 11 (by omega), hcc]
    have hR0 := hR
    unfold RelC at hR
    obtain ⟨r1, r2, r3⟩ := id hR
    obtain ⟨⟨y1, y2⟩, ⟨c0, c1, c2, c3, c4⟩, y3⟩ := r2 i (by omega)
    obtain ⟨-, -, o3⟩ := cr2 i (by omega)
    have rb := hr i
    have stay : ¬ G 129 0 i = 0 → wp_X11_closeMonth_2 Q f S ((i + 1 : Nat) : Int) := by
      intro z
      have nx2 := nx S
      unfold moS at nx2
      rw [if_neg z] at nx2
      exact nx2 hR0 hF
    unfold wp_X11_closeMonth_2 wp_X11_closeMonth_38
    rw [s11, Int.toNat_natCast, c4, show ((i : Int) + 1) = ((i + 1 : Nat) : Int) by omega]
    refine ⟨⟨by omega, by omega⟩, ⟨by omega, by omega⟩, fun z => absurd z (by omega), fun _ => ⟨by omega, by omega, fun z => absurd z y1, fun _ _ => ⟨y2, ⟨by omega, by omega⟩, fun z => stay z, fun z => ?_⟩⟩⟩
    refine qx_numberForC hI0 ⟨fun k hk => ff k (by omega), by rw [ff 50 (by omega)]⟩ ⟨by omega, by omega⟩ ⟨by decide, by decide⟩ (fun fc r hfc hnu => ?_)
    rw [hrt i fc r hfc hnu]
    obtain ⟨T, eT⟩ : ∃ T : St, T = sta S 75 0 fc := ⟨_, rfl⟩
    rw [← eT]
    have tk : ∀ k, ¬ k = 75 → T k = S k := fun k z => by rw [eT, ra_ne z]
    have t50 : T 50 = S 50 := tk 50 (by decide)
    have t1 : T 1 = S 1 := tk 1 (by decide)
    unfold wp_X1_closeMonth
    rw [t50, t1, c2]
    refine ⟨y2, y2, y2, fun s3 e3 => ?_⟩
    have a50 : s3 50 = S 50 := by rw [e3, rs_ne (by decide), t50]
    have a11 : s3 1 i 1 = G 126 0 i := by rw [e3, rs_eq, up_ne (by decide), t1, c1]
    have a12 : s3 1 i 2 = G 127 0 i + rt i := by rw [e3, rs_eq, up_eq]
    rw [a50, a11, a12]
    refine ⟨y2, y2, j_min ⟨by omega, by omega⟩ ⟨by omega, by omega⟩ ?_⟩
    rw [a50, a12]
    refine ⟨y2, y2, fun s10 e10 => ?_⟩
    have b50 : s10 50 = S 50 := by rw [e10, rs_ne (by decide), a50]
    have b13 : s10 1 i 3 = G 128 0 i := by rw [e10, rs_eq, up_ne (by decide), e3, rs_eq, up_ne (by decide), t1, c3]
    have b11 : s10 1 i 1 = G 126 0 i := by rw [e10, rs_eq, up_ne (by decide), a11]
    rw [b50, b13, b11]
    refine ⟨y2, y2, y2, fun s14 e14 => ?_⟩
    have d50 : s14 50 = S 50 := by rw [e14, rs_ne (by decide), b50]
    rw [d50]
    refine ⟨y2, fun s16 e16 => ?_⟩
    have g1 : s16 1 = upj (upj (upj (upj (S 1) i 2 (G 127 0 i + rt i)) i 2 (G 127 0 i + rt i - min (G 126 0 i) (G 127 0 i + rt i))) i 3 (G 128 0 i + (G 126 0 i - min (G 126 0 i) (G 127 0 i + rt i)))) i 1 0 := by
      rw [e16, rs_fn, e14, rs_fn, e10, rs_fn, e3, rs_fn, t1]
    have gk : ∀ k, ¬ k = 1 → ¬ k = 75 → s16 k = S k := fun k w1 w2 => by rw [e16, rs_ne w1, e14, rs_ne w1, e10, rs_ne w1, e3, rs_ne w1, tk k w2]
    have nx2 := nx s16
    unfold moS at nx2
    rw [if_pos z] at nx2
    refine nx2 ?_ (fun k w1 w2 => by rw [gk k w1 w2]; exact hF k w1 w2)
    unfold RelC
    rw [g1, gk 11 (by decide) (by decide), gk 79 (by decide) (by decide), gk 50 (by decide) (by decide)]
    simp (decide := true) only [rs_ne, rs_eq, not_false_eq_true]
    exact I_crews_mo hR (by omega) v2.1 (by omega) rb rfl
theorem cmm_loop {n : Nat} {σ T0 : St} {cc : Nat} {rt : Nat → Int} {Q : St → Prop} (hI : Inv n σ) (hM : MEq σ T0) (h126 : T0 126 = σ 126) (h127 : T0 127 = σ 127) (h128 : T0 128 = σ 128) (hcc : σ 11 0 11 = cc) (hr : ∀ w, 0 ≤ rt w ∧ rt w ≤ 9999) (hrt : ∀ w : Nat, ∃ f, FcCrew σ w f ∧ NumF σ f 3 (rt w)) (hB : ∀ i, i ≤ cc → ∀ j : Nat, (j : Int) < cc → 0 ≤ moG rt σ i 126 0 j ∧ moG rt σ i 126 0 j ≤ 900000000 ∧ 0 ≤ moG rt σ i 127 0 j ∧ moG rt σ i 127 0 j ≤ 90000000) (q : ∀ T, (T 126 0 = moG rt σ cc 126 0 ∧ T 127 0 = moG rt σ cc 127 0 ∧ T 128 0 = moG rt σ cc 128 0) → (∀ k, ¬ k = 126 → ¬ k = 127 → ¬ k = 128 → ¬ k = 119 → T k = T0 k) → Q T) :
    ∀ (k i f : Nat) (T : St), i + k = cc → k < f → (T 126 0 = moG rt σ i 126 0 ∧ T 127 0 = moG rt σ i 127 0 ∧ T 128 0 = moG rt σ i 128 0) → (∀ k, ¬ k = 126 → ¬ k = 127 → ¬ k = 128 → ¬ k = 119 → T k = T0 k) → wp_X12_monthEnds_2 Q f T i := by
  have hI0 := hI
  obtain ⟨a_sky, a_land, a_price, a_ints, a_logA, a_logB, a_live, a_lying, a_ways, a_crews, a_dbl, a_tape, a_law, a_ord, a_spur, a_cuts, a_cru, a_kf, a_tn⟩ := hI
  obtain ⟨⟨u1, u2, u3⟩, cr2, cr3⟩ := id a_crews
  intro k
  induction k with
  | zero =>
    intro i f T hk hf hR hF
    obtain ⟨f, rfl⟩ : ∃ n', f = n' + 1 := ⟨f - 1, by omega⟩
    have e : i = cc := by omega
    subst e
    unfold wp_X12_monthEnds_2
    rw [hF 12 (by decide) (by decide) (by decide) (by decide), hM.1 60 (by decide), u1, hcc]
    exact ⟨⟨by omega, by omega⟩, ⟨by omega, by omega⟩, fun _ => q T hR hF, fun z => absurd (Int.le_refl _) z⟩
  | succ k ih =>
    intro i f T hk hf hR hF
    obtain ⟨f, rfl⟩ : ∃ n', f = n' + 1 := ⟨f - 1, by omega⟩
    have em : MEq σ T := ⟨fun j hj => by rw [hF 12 (by decide) (by decide) (by decide) (by decide), hM.1 j hj], fun k z1 z2 => by rw [hF k (by omega) (by omega) (by omega) (by omega), hM.2 k z1 z2]⟩
    have nx := fun T => ih (i + 1) f T (by omega) (by omega)
    have nxt : moG rt σ (i + 1) = moS (rt i) (moG rt σ i) i := rfl
    have g129 : moG rt σ i 129 = σ 129 := moG_k (by decide) (by decide) (by decide) i
    have bb := hB i (by omega) i (by omega)
    rw [nxt] at nx
    obtain ⟨G, eG⟩ : ∃ G, G = moG rt σ i := ⟨_, rfl⟩
    rw [← eG] at nx hR bb g129
    obtain ⟨h6, h7, h8⟩ := id hR
    have t60 : T 12 0 60 = cc := by rw [em.1 60 (by decide), u1, hcc]
    have t129 : T 129 0 i = σ 129 0 i := by rw [em.2 129 (by decide) (by decide)]
    obtain ⟨-, -, o3⟩ := cr2 i (by omega)
    have rb := hr i
    obtain ⟨fc, hfc, hnu⟩ := hrt i
    unfold wp_X12_monthEnds_2 wp_X12_monthEnds_102
    rw [t60, Int.toNat_natCast, t129, h7, show ((i : Int) + 1) = ((i + 1 : Nat) : Int) by omega]
    refine ⟨⟨by omega, by omega⟩, ⟨by omega, by omega⟩, fun z => absurd z (by omega), fun _ => ⟨by omega, by omega, ⟨by omega, by omega⟩, fun z => ⟨by omega, by omega, ?_⟩, fun z => ?_⟩⟩
    · refine qm_dueOf hI0 em ⟨by omega, by omega⟩ ⟨by decide, by decide⟩ hfc hnu (fun g => ⟨by omega, by omega, fun s27 e27 => ?_⟩)
      have a7 : s27 127 0 i = G 127 0 i + rt i := by rw [e27, rs_eq, up_eq]
      have a6 : s27 126 0 i = G 126 0 i := by rw [e27, rs_ne (by decide), ra_ne (by decide), h6]
      have fin : ∀ y0, y0 = min (G 126 0 i) (G 127 0 i + rt i) → wp_X12_monthEnds_67 (fun σ x1 => wp_X12_monthEnds_2 Q f σ x1) Q s27 i y0 := by
        intro y0 ey
        unfold wp_X12_monthEnds_67 wp_X12_monthEnds_102
        rw [Int.toNat_natCast, a7]
        refine ⟨by omega, by omega, by omega, by omega, fun s5 e5 => ?_⟩
        have b8 : s5 128 0 i = G 128 0 i := by rw [e5, rs_ne (by decide), e27, rs_ne (by decide), ra_ne (by decide), h8]
        have b6 : s5 126 0 i = G 126 0 i := by rw [e5, rs_ne (by decide), a6]
        rw [b8, b6]
        refine ⟨by omega, by omega, by omega, by omega, by omega, by omega, fun s12 e12 => ⟨by omega, by omega, fun s15 e15 => ?_⟩⟩
        rw [show ((i : Int) + 1) = ((i + 1 : Nat) : Int) by omega]
        have nx2 := nx s15
        unfold moS at nx2
        rw [if_pos (by rw [g129]; exact z)] at nx2
        refine nx2 ⟨?_, ?_, ?_⟩ (fun k w1 w2 w3 w4 => ?_)
        · rw [e15, rs_eq, e12, rs_ne (by decide), e5, rs_ne (by decide), e27, rs_ne (by decide), ra_ne (by decide), h6, rs_eq, rs_ne (by decide), rs_ne (by decide)]
        · rw [e15, rs_ne (by decide), e12, rs_ne (by decide), e5, rs_eq, e27, rs_eq, up_up, ra_ne (by decide), h7, rs_ne (by decide), rs_ne (by decide), rs_eq, ey]
        · rw [e15, rs_ne (by decide), e12, rs_eq, e5, rs_ne (by decide), e27, rs_ne (by decide), ra_ne (by decide), h8, rs_ne (by decide), rs_eq, rs_ne (by decide), ey]
        · rw [e15, rs_ne w1, e12, rs_ne w3, e5, rs_ne w2, e27, rs_ne w2, ra_ne w4]
          exact hF k w1 w2 w3 w4
      rw [a7, a6]
      refine ⟨by omega, by omega, by omega, by omega, ⟨by omega, by omega⟩, ⟨by omega, by omega⟩, fun c => ⟨by omega, by omega, fin _ ?_⟩, fun c => ⟨by omega, by omega, fin _ ?_⟩⟩
      · rw [Int.min_eq_right c]
      · rw [Int.min_eq_left (by omega)]
    · have nx2 := nx T
      unfold moS at nx2
      rw [if_neg (by rw [g129]; exact z)] at nx2
      exact nx2 hR hF
theorem moG_B {n : Nat} {σ : St} {cc : Nat} {rt : Nat → Int} (hI : Inv n σ) (hcc : σ 11 0 11 = cc) (hr : ∀ w, 0 ≤ rt w ∧ rt w ≤ 9999) : ∀ i, i ≤ cc → ∀ j : Nat, (j : Int) < cc → 0 ≤ moG rt σ i 126 0 j ∧ moG rt σ i 126 0 j ≤ 900000000 ∧ 0 ≤ moG rt σ i 127 0 j ∧ moG rt σ i 127 0 j ≤ 90000000 := by
  obtain ⟨a_sky, a_land, a_price, a_ints, a_logA, a_logB, a_live, a_lying, a_ways, a_crews, a_dbl, a_tape, a_law, a_ord, a_spur, a_cuts, a_cru, a_kf, a_tn⟩ := hI
  obtain ⟨⟨u1, u2, u3⟩, cr2, cr3⟩ := id a_crews
  have v2 := a_live.2.1
  have k4 := a_sky.2.1
  intro i
  induction i with
  | zero =>
    intro _ j hj
    have o3 := (cr2 j (by omega)).2.2
    show 0 ≤ σ 126 0 j ∧ σ 126 0 j ≤ 900000000 ∧ 0 ≤ σ 127 0 j ∧ σ 127 0 j ≤ 90000000
    omega
  | succ i ih =>
    intro hi j hj
    have a := ih (by omega) j hj
    have ga := moG_at (rt := rt) (V := σ) i i (Nat.le_refl _)
    have o3 := (cr2 i (by omega)).2.2
    have rb := hr i
    show 0 ≤ moS (rt i) (moG rt σ i) i 126 0 j ∧ moS (rt i) (moG rt σ i) i 126 0 j ≤ 900000000 ∧ 0 ≤ moS (rt i) (moG rt σ i) i 127 0 j ∧ moS (rt i) (moG rt σ i) i 127 0 j ≤ 90000000
    unfold moS
    split
    · simp (decide := true) only [rs_ne, rs_eq, not_false_eq_true]
      by_cases e : j = i
      · rw [e, up_eq, up_eq, ga.1, ga.2.1]
        have m1 : min (σ 126 0 i) (σ 127 0 i + rt i) ≤ σ 127 0 i + rt i := Int.min_le_right _ _
        have m2 : 0 ≤ min (σ 126 0 i) (σ 127 0 i + rt i) := by
          by_cases c : σ 126 0 i ≤ σ 127 0 i + rt i
          · rw [Int.min_eq_left c]; omega
          · rw [Int.min_eq_right (by omega)]; omega
        omega
      · rw [up_ne e, up_ne e]
        exact a
    · exact a
