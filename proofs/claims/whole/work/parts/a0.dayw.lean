/-! a day goes by: the reference's ways, and what each of them bears -/
theorem first_ex (M : Nat → Prop) : ∀ k : Nat, ∃ r, first (k : Int) M r := by
  intro k
  induction k with
  | zero => exact ⟨-1, Or.inl ⟨rfl, fun k hk => absurd hk (by omega)⟩⟩
  | succ k ih =>
    obtain ⟨r, h⟩ := ih
    rcases h with ⟨h1, h2⟩ | ⟨a, h1, h2, h3, h4⟩
    · by_cases c : M k
      · exact ⟨k, Or.inr ⟨k, rfl, by omega, c, fun k' z => h2 k' (by omega)⟩⟩
      · refine ⟨-1, Or.inl ⟨rfl, fun k' z => ?_⟩⟩
        by_cases e : k' = k
        · rw [e]; exact c
        · exact h2 k' (by omega)
    · exact ⟨r, Or.inr ⟨a, h1, by omega, h3, h4⟩⟩
theorem tmany_nn {n : Nat} {σ : St} (hI : Inv n σ) : 0 ≤ tmany (σ 66 0) (σ 67 0) (σ 7 0 3) (σ 8 0 10) := by
  obtain ⟨-, -, -, -, -, -, -, -, -, -, -, -, a_law, -⟩ := hI
  have lb := lat_b (σ 66 0) (σ 7 0 3) (σ 8 0 10).toNat
  obtain ⟨h1, h2⟩ := LawX.of a_law
  unfold tmany tforce
  by_cases c : lat (σ 66 0) (σ 7 0 3) (σ 8 0 10).toNat = -1
  · rw [if_pos c]
    omega
  · rw [if_neg c]
    have := (h2 (lat (σ 66 0) (σ 7 0 3) (σ 8 0 10).toNat).toNat (by omega)).1
    omega
theorem BarF_ex {n : Nat} {σ : St} {f : Nat → Int} {deed : Int} (hI : Inv n σ) : ∃ r, BarF σ f deed r := by
  obtain ⟨r, h⟩ := first_ex (fun k => σ 68 0 (12 * tforce (σ 66 0) (σ 7 0 3) (σ 8 0 10) + k) = 0 ∧ σ 69 0 (12 * tforce (σ 66 0) (σ 7 0 3) (σ 8 0 10) + k) = deed ∧ Hd f (σ 71 0) (σ 72 0) (σ 73 0) (σ 74 0) (12 * tforce (σ 66 0) (σ 7 0 3) (σ 8 0 10) + k) (σ 70 0 (12 * tforce (σ 66 0) (σ 7 0 3) (σ 8 0 10) + k))) (tmany (σ 66 0) (σ 67 0) (σ 7 0 3) (σ 8 0 10)).toNat
  rw [Int.toNat_of_nonneg (tmany_nn hI)] at h
  exact ⟨r, h⟩
theorem Hd_fg {n : Nat} {σ : St} {f g : Nat → Int} (hI : Inv n σ) (e : ∀ i, i < 13 → g i = f i) {k : Nat} (hk : (k : Int) < tmany (σ 66 0) (σ 67 0) (σ 7 0 3) (σ 8 0 10)) : Hd f (σ 71 0) (σ 72 0) (σ 73 0) (σ 74 0) (12 * tforce (σ 66 0) (σ 7 0 3) (σ 8 0 10) + k) (σ 70 0 (12 * tforce (σ 66 0) (σ 7 0 3) (σ 8 0 10) + k)) ↔ Hd g (σ 71 0) (σ 72 0) (σ 73 0) (σ 74 0) (12 * tforce (σ 66 0) (σ 7 0 3) (σ 8 0 10) + k) (σ 70 0 (12 * tforce (σ 66 0) (σ 7 0 3) (σ 8 0 10) + k)) := by
  obtain ⟨-, -, -, -, -, -, -, -, -, -, -, -, a_law, -⟩ := hI
  obtain ⟨-, -, f3⟩ := force_eq (today := σ 7 0 3) a_law
  obtain ⟨g1, g2⟩ := f3 k hk
  obtain ⟨-, g4⟩ := a_law.2 _ g1
  obtain ⟨-, s5⟩ := g4 k g2
  exact Hd_iff rfl e (fun q hq => ⟨⟨rfl, rfl, rfl, rfl⟩, (s5 q hq).2⟩)
theorem BarF_uni {n : Nat} {σ : St} {f g : Nat → Int} {deed r r' : Int} (hI : Inv n σ) (e : ∀ i, i < 13 → g i = f i) (h : BarF σ f deed r) (h' : BarF σ g deed r') : r' = r := by
  refine first_uni h h' (fun k hk => ?_)
  rw [Hd_fg hI e hk]
theorem NumF_uni {n : Nat} {σ : St} {f g : Nat → Int} {verb r r' : Int} (hI : Inv n σ) (e : ∀ i, i < 13 → g i = f i) (h : NumF σ f verb r) (h' : NumF σ g verb r') : r' = r := by
  refine lastv_uni h h' (fun k hk => ?_) (fun k _ _ => rfl)
  rw [Hd_fg hI e hk]
theorem Fc_ex (a0 a1 a2 a3 a4 a5 a6 a7 a8 a9 a10 a11 a12 : Int) : ∃ f, Fc f a0 a1 a2 a3 a4 a5 a6 a7 a8 a9 a10 a11 a12 :=
  ⟨up (up (up (up (up (up (up (up (up (up (up (up (up z0 0 a0) 1 a1) 2 a2) 3 a3) 4 a4) 5 a5) 6 a6) 7 a7) 8 a8) 9 a9) 10 a10) 11 a11) 12 a12, rfl, rfl, rfl, rfl, rfl, rfl, rfl, rfl, rfl, rfl, rfl, rfl, rfl⟩
theorem rm_ex {n : Nat} {σ : St} (hI : Inv n σ) : ∃ rm : Nat → Int, (∀ w, 0 ≤ rm w ∧ rm w ≤ 200) ∧ ∀ w, (∃ f r, FcWay σ (σ 10 w 1) (σ 10 w 0) f ∧ BarF σ f 1 r ∧ cyv σ w r = rm w) ∧ ∀ f r, FcWay σ (σ 10 w 1) (σ 10 w 0) f → BarF σ f 1 r → cyv σ w r = rm w := by
  obtain ⟨rm, h⟩ := Classical.axiomOfChoice (β := fun _ : Nat => Int) (r := fun (w : Nat) (v : Int) => ∃ f r, FcWay σ (σ 10 w 1) (σ 10 w 0) f ∧ BarF σ f 1 r ∧ cyv σ w r = v) (fun w => by
    obtain ⟨f, hf⟩ := Fc_ex (σ 10 w 1) (σ 28 0 (σ 10 w 1).toNat) 0 0 (seas (σ 7 0 3)) (σ 7 0 3) (wea σ 0) (wea σ 1) (wea σ 2) (apv (σ 10 w 1) (σ 3 0 6)) (σ 29 0 (σ 10 w 1).toNat) 0 (σ 10 w 0)
    obtain ⟨r, hr⟩ := BarF_ex (f := f) (deed := 1) hI
    exact ⟨cyv σ w r, f, r, hf, hr, rfl⟩)
  refine ⟨rm, fun w => ?_, fun w => ⟨h w, fun f r hf hr => ?_⟩⟩
  · obtain ⟨f, r, -, -, e⟩ := h w
    rw [← e]
    exact cyv_b hI
  · obtain ⟨f', r', hf', hr', e⟩ := h w
    rw [← e, BarF_uni hI (Fc_eq hf' hf) hr' hr]
theorem GhB_W {σ : St} {m wc : Nat} {rm : Nat → Int} (h : GhB σ m) (ht : ∀ w, w < wc → 0 ≤ σ 122 0 w ∧ σ 122 0 w ≤ 63) (hd : 0 ≤ σ 7 0 3 ∧ σ 7 0 3 ≤ 3999) : ∀ w, w ≤ wc → GhB (dyW σ m rm w).2 m := by
  intro w
  induction w with
  | zero => intro _; exact h
  | succ w ih =>
    intro hw
    show GhB (dyWr σ m (rm w) w (dyW σ m rm w).2).2.2 m
    unfold dyWr
    exact GhB_R (ih (by omega)) (ht w (by omega)) hd m
theorem FrE_MEq {σ τ T : St} (hτ : ∀ k, 83 ≤ k → τ k = σ k) (h12 : ∀ i, ¬ i = 0 → τ 12 0 i = σ 12 0 i) (hF : FrE τ T) : MEq σ T :=
  ⟨fun i hi => by rw [hF 12 (by decide) (by decide) (by decide) (by decide) (by decide) (by decide), h12 i hi], fun k z1 z2 => by rw [hF k (by omega) (by omega) (by omega) (by omega) (by omega) (by omega), hτ k z1]⟩
theorem dym_loop {n : Nat} {σ τ : St} {m wc : Nat} {rm : Nat → Int} {K : St → Int → Prop} {Q : Int → St → Prop} (hI : Inv n σ) (hτ : ∀ k, 83 ≤ k → τ k = σ k) (h12 : ∀ i, ¬ i = 0 → τ 12 0 i = σ 12 0 i) (hm : σ 11 0 4 = m) (hwc : σ 11 0 6 = wc) (hr : ∀ w, 0 ≤ rm w ∧ rm w ≤ 200) (hrm : ∀ w, ∃ f r, FcWay σ (σ 10 w 1) (σ 10 w 0) f ∧ BarF σ f 1 r ∧ cyv σ w r = rm w) (q : ∀ T F, FloP (dyW σ m rm wc).2 T m (σ 7 0 3) (σ 3 0 6) F → FrE τ T → K T (dyW σ m rm wc).1) :
    ∀ (k i f : Nat) (T : St) (F : Nat → Prop), i + k = wc → k < f → FloP (dyW σ m rm i).2 T m (σ 7 0 3) (σ 3 0 6) F → FrE τ T → wp_X12_day_21 K Q f T (dyW σ m rm i).1 i := by
  have hI0 := hI
  obtain ⟨a_sky, a_land, a_price, a_ints, a_logA, a_logB, a_live, a_lying, a_ways, a_crews, a_dbl, a_tape, a_law, a_ord, a_spur, a_cuts, a_cru, a_kf, a_tn⟩ := hI
  obtain ⟨⟨k1, k2, k3⟩, k4, -⟩ := id a_sky
  obtain ⟨v1, v2, v3, -⟩ := id a_live
  obtain ⟨⟨-, -, -, -, -, m2⟩, m1, -⟩ := id a_land
  obtain ⟨⟨u1, u2, u3⟩, w2, w3⟩ := id a_ways
  have gb : GhB σ m := fun l hl => by
    obtain ⟨-, ⟨-, gh⟩, gc, -⟩ := a_logB l (by omega)
    rcases gh with h | h | h | h | h <;> omega
  have gw := GhB_W (rm := rm) gb (wc := wc) (fun w hw => by have := (w2 w (by omega)).2.2; omega) (by omega)
  have ub : ∀ l, l < m → 2 ≤ σ 97 0 l ∧ σ 97 0 l ≤ 6 ∧ 1 ≤ σ 98 0 l ∧ σ 98 0 l ≤ 32 := fun l hl => by
    obtain ⟨-, -, -, aw⟩ := a_logA l (by omega)
    omega
  have ev : vlv τ = vlv σ := by
    unfold vlv
    rw [hτ 97 (by decide), hτ 98 (by decide)]
  intro k
  induction k with
  | zero =>
    intro i f T F hk hf hR hF
    obtain ⟨f, rfl⟩ : ∃ n', f = n' + 1 := ⟨f - 1, by omega⟩
    have e : i = wc := by omega
    subst e
    unfold wp_X12_day_21
    rw [hF 12 (by decide) (by decide) (by decide) (by decide) (by decide) (by decide), h12 53 (by decide), u1, hwc]
    exact ⟨⟨by omega, by omega⟩, ⟨by omega, by omega⟩, fun _ => q T F hR hF, fun z => absurd (Int.le_refl _) z⟩
  | succ k ih =>
    intro i f T F hk hf hR hF
    obtain ⟨f, rfl⟩ : ∃ n', f = n' + 1 := ⟨f - 1, by omega⟩
    obtain ⟨⟨y1, y2⟩, ⟨z0, z1, z2, z3, z4⟩, z5⟩ := w2 i (by omega)
    have em : MEq σ T := FrE_MEq hτ h12 hF
    have t53 : T 12 0 53 = wc := by rw [em.1 53 (by decide), u1, hwc]
    obtain ⟨sr, -, -, -, -, -, wm, -⟩ := em.facts hI0
    obtain ⟨fc, r, hfc, hbr, hcy⟩ := hrm i
    have es : dyW σ m rm (i + 1) = ((dyW σ m rm i).1 + (dyWr σ m (rm i) i (dyW σ m rm i).2).2.1, (dyWr σ m (rm i) i (dyW σ m rm i).2).2.2) := rfl
    have nx := fun T F => ih (i + 1) f T F (by omega) (by omega)
    rw [es] at nx
    unfold wp_X12_day_21 wp_X12_carries wp_X12_carries_36 wp_X12_carries_37
    rw [t53, show ((i : Int) + 1) = ((i + 1 : Nat) : Int) by omega]
    refine ⟨⟨by omega, by omega⟩, ⟨by omega, by omega⟩, fun z => absurd z (by omega), fun _ => ?_⟩
    refine qm_carryOf hI0 em rfl (by omega) hfc hbr (fun g => ?_)
    rw [hcy, Int.toNat_natCast]
    obtain ⟨T', eT'⟩ : ∃ T' : St, T' = sta T 119 0 g := ⟨_, rfl⟩
    rw [← eT']
    have tk : ∀ k, ¬ k = 119 → T' k = T k := fun k z => by rw [eT', ra_ne z]
    have hF' : FrE τ T' := fun k a1 a2 a3 a4 a5 a6 => by rw [tk k a6]; exact hF k a1 a2 a3 a4 a5 a6
    have hR' : FloP (dyW σ m rm i).2 T' m (σ 7 0 3) (σ 3 0 6) F := by
      unfold FloP
      rw [tk 95 (by decide), tk 102 (by decide), tk 103 (by decide), tk 104 (by decide), tk 105 (by decide)]
      exact hR
    have t120 : T' 120 0 i = σ 120 0 i := by rw [tk 120 (by decide), em.2 120 (by decide) (by decide)]
    have go : ∀ snk, snk = snkv σ i → ∃ n42, wp_X12_carries_42 (fun r_26 σ_25 => ∀ v_27 : Int, v_27 = (dyW σ m rm i).1 + r_26 → wp_X12_day_21 K Q f σ_25 v_27 ((i + 1 : Nat) : Int)) n42 T' i (rm i) 0 snk 0 := by
      intro snk hsn
      have sn : snk = 0 ∨ snk = 1 := by
        rw [hsn]
        unfold snkv
        split
        · exact Or.inr rfl
        · exact Or.inl rfl
      have eW : dyR (σ 7 0 3) (σ 3 0 6) (σ 121 0 i) (σ 122 0 i) snk (τ 98 0) (vlv τ) (rm i, 0, (dyW σ m rm i).2) m = dyWr σ m (rm i) i (dyW σ m rm i).2 := by
        unfold dyWr
        rw [hsn, ev, hτ 98 (by decide)]
      refine ⟨m + 1, cm_loop (τ := τ) (V0 := (dyW σ m rm i).2) (w := i) (m := m) (fr := σ 121 0 i) (to := σ 122 0 i) (td := σ 7 0 3) (mill := σ 3 0 6) (snk := snk) (r0 := rm i) (n0 := 0) (by omega) (by rw [h12 17 (by decide), v1, hm]) (by omega) (hr i) (by rw [hτ 97 (by decide), hτ 98 (by decide)]; exact ub) ⟨by omega, by omega⟩ (by omega) (by rw [hτ 121 (by decide)]) (by rw [hτ 122 (by decide)]) (by rw [h12 1 (by decide), k2]) (by omega) (by rw [h12 7 (by decide), m2]) m1 sn (gw i (by omega)) (fun T2 F2 a b v ev2 => ?_) m 0 (m + 1) T' F (by omega) (by omega) hR' hF'⟩
      subst ev2
      rw [eW] at a ⊢
      exact nx T2 F2 a b
    rw [t120]
    refine ⟨by omega, by omega, ⟨by omega, by omega⟩, fun z => go 0 ?_, fun z => ?_⟩
    · unfold snkv
      rw [if_neg (fun y => z y.1)]
    · have t12 : T' 12 = T 12 := tk 12 (by decide)
      have sr' : SkyR (T' 12 0 1) (T' 12 0 8) (T' 88 0) := by
        rw [t12, tk 88 (by decide)]
        exact sr
      have ww : weaM T' 1 = wea σ 1 := by
        rw [← wm]
        unfold weaM
        rw [t12, tk 88 (by decide), tk 89 (by decide), tk 90 (by decide), tk 91 (by decide)]
      have wi := wea_in (SkyX.of a_sky) 1
      refine sm_skyn sr' (by decide) (by decide) ?_
      rw [ww]
      refine ⟨⟨by omega, by omega⟩, fun y => go 0 ?_, fun y => go 1 ?_⟩
      · unfold snkv
        rw [if_neg (fun x => y x.2)]
      · unfold snkv
        rw [if_pos ⟨z, y⟩]
/-! what lies at the mill at the day's end is in the pond -/
def flG (td mill : Int) (V : St) : Nat → St
  | 0 => V
  | l + 1 => if flG td mill V l 102 0 l = 0 ∧ flG td mill V l 95 0 l = mill then bcm (flG td mill V l) l 1 1 td (td + Int.tdiv (apv mill mill) 4) else flG td mill V l
theorem flG_k {td mill : Int} {V : St} {k : Nat} (h2 : ¬ k = 102) (h4 : ¬ k = 104) (h5 : ¬ k = 105) : ∀ l, flG td mill V l k = V k := by
  intro l
  induction l with
  | zero => rfl
  | succ l ih =>
    unfold flG
    split
    · unfold bcm
      rw [rs_ne h5, rs_ne h4, rs_ne h2]
      exact ih
    · exact ih
theorem flG_none {td mill : Int} {V : St} {m : Nat} (h : ∀ l, l < m → ¬ (V 102 0 l = 0 ∧ V 95 0 l = mill)) : ∀ k, k ≤ m → flG td mill V k = V := by
  intro k
  induction k with
  | zero => intro _; rfl
  | succ k ih =>
    intro hk
    have a := ih (by omega)
    have e : flG td mill V (k + 1) = if flG td mill V k 102 0 k = 0 ∧ flG td mill V k 95 0 k = mill then bcm (flG td mill V k) k 1 1 td (td + Int.tdiv (apv mill mill) 4) else flG td mill V k := rfl
    rw [e, a, if_neg (h k (by omega))]
theorem FloP_take {G V : St} {m l : Nat} {td mill kd : Int} {F : Nat → Prop} (h : FloP G V m td mill F) (hl : F l) (hk : kd = td + Int.tdiv (apv mill mill) 4) : FloP (bcm G l 1 1 td kd) V m td mill (fun i => F i ∧ ¬ i = l) := by
  obtain ⟨⟨h1, h2, h3, h4, h5⟩, h6⟩ := h
  obtain ⟨-, -, g2, -⟩ := h6 l hl
  have pf : ∀ i, F i ↔ (F i ∧ ¬ i = l) ∨ i = l := fun i => ⟨fun z => by
    by_cases e : i = l
    · exact Or.inr e
    · exact Or.inl ⟨z, e⟩, fun z => by
    rcases z with z | z
    · exact z.1
    · rw [z]; exact hl⟩
  have c5 := at5_up (P := fun i => F i ∧ ¬ i = l) (P' := F) (j := l) (x := 1) (by decide) pf
  have n5 : ¬ at5 (fun i => F i ∧ ¬ i = l) 1 (5 * l + 1) := fun z => z.1.2 (by omega)
  have ek : kdv td mill (G 95 0) (5 * l + 1) = kd := by
    unfold kdv
    rw [show (5 * l + 1) / 5 = l by omega, g2, hk]
  unfold FloP bcm
  simp (decide := true) only [rs_ne, rs_eq, not_false_eq_true]
  refine ⟨⟨h1, h2, ?_, ?_, ?_⟩, fun i hi => ?_⟩
  · rw [h3, cfv_up (P := fun i => F i ∧ ¬ i = l) (P' := F) (j := l) pf, cfv_upa (fun z => z.2 rfl)]
  · rw [h4, cfv_up c5, cfv_upa n5]
  · rw [h5, cfv_up c5, cfv_upa n5, ek]
  · rw [up_ne hi.2]
    exact h6 i hi.1
theorem FloP_two {G V : St} {m l : Nat} {td mill kd : Int} {F : Nat → Prop} (h : FloP G V m td mill F) (hn : ¬ F l) : FloP (bcm G l 1 1 td kd) (bcm V l 1 1 td kd) m td mill F := by
  obtain ⟨⟨h1, h2, h3, h4, h5⟩, h6⟩ := h
  unfold FloP bcm
  simp (decide := true) only [rs_ne, rs_eq, not_false_eq_true]
  have n5 : ¬ at5 F 1 (5 * l + 1) := fun z => hn (by have := z.1; rw [show (5 * l + 1) / 5 = l by omega] at this; exact this)
  refine ⟨⟨h1, h2, by rw [h3, cfv_upa hn], by rw [h4, cfv_upa n5], by rw [h5, cfv_upa n5]⟩, fun i hi => ?_⟩
  have e : ¬ i = l := fun z => hn (by rw [← z]; exact hi)
  rw [up_ne e]
  exact h6 i hi
