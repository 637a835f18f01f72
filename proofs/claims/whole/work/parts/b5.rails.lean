/-! rails and railsOf -/
/-- the least so far -/
def RnM (ok : Nat → Prop) (val : Nat → Int) (x : Nat) (v : Int) : Prop := (v = 100000000 ∨ ∃ t, t < x ∧ ok t ∧ val t = v) ∧ (∀ t, t < x → ok t → v ≤ val t) ∧ v ≤ 100000000
theorem RnM_end {N b d : Nat} {c0 c1 c2 ask : Nat → Int} {haul stored v : Int} (hN : N ≤ 9) (hd : d ≤ 3) (hb : b < 2 ^ N) (hh : 0 ≤ haul ∧ haul ≤ 999) (hs : 0 ≤ stored) (hc : ∀ i, i < N → 0 ≤ c2 i ∧ c2 i ≤ 999)
    (h : RnM (fun t => bsum c1 t N ≤ stored) (fun t => fw c0 c1 c2 ask haul stored N d t + bsum c2 (dif t b) N) (2 ^ N) v) : v = aw c0 c1 c2 ask haul stored N (d + 1) b := by
  have p := p2_512 hN
  have mv := lkN_MinV (c2 := c2) (A := fw c0 c1 c2 ask haul stored N d) (b := b) hN hb
  have ab := aw_b (c0 := c0) (c1 := c1) (ask := ask) hN hh hs hc (d + 1) (by omega) b hb
  have e : lkN c2 (fw c0 c1 c2 ask haul stored N d) N b = aw c0 c1 c2 ask haul stored N (d + 1) b := rfl
  rw [e] at mv
  obtain ⟨⟨t, t1, t2⟩, t3⟩ := id mv
  have nok : ∀ u, ¬ bsum c1 u N ≤ stored → fw c0 c1 c2 ask haul stored N d u = 100000000 := fun u z => by
    unfold fw frm
    rw [if_neg z]
  have bs := fun u => bsum_b (c := c2) (B := 999) (n := N) (by decide) hc (t := dif u b) N (Nat.le_refl _)
  obtain ⟨h1, h2, h3⟩ := h
  dsimp only at h1 h2 t2 t3
  have okt : bsum c1 t N ≤ stored := by
    by_cases z : bsum c1 t N ≤ stored
    · exact z
    · have := nok t z
      have := bs t
      omega
  have l1 := h2 t t1 okt
  rcases h1 with h1 | ⟨u, u1, u2, u3⟩
  · omega
  · have := t3 u u1
    omega
theorem pr126_loop {σ : St} {N s d b : Nat} {haul stored : Int} {f h g c0 c1 c2 ask : Nat → Int} {K : St → Int → Int → Int → Int → Int → Prop} {Q : St → Prop} (hN : N ≤ 9) (hd : s + d = 3) (hb : b < 2 ^ N) (hh : 0 ≤ haul ∧ haul ≤ 999) (hst : 0 ≤ stored) (hc : ∀ i, i < N → 0 ≤ c2 i ∧ c2 i ≤ 999) (hf : ∀ t, t < 2 ^ N → f (512 * (s + 1) + t) = aw c0 c1 c2 ask haul stored N d t) (hhl : ∀ t, t < 2 ^ N → h t = hlv c0 c1 (ask s) haul stored N t) (hg : ∀ t, t < 2 ^ N → g t = bsum c2 t N) (q : K (prW σ f h g) haul ((2 ^ N : Nat) : Int) s b (aw c0 c1 c2 ask haul stored N (d + 1) b)) :
    ∀ (k x n : Nat) (v : Int), x + k = 2 ^ N → k < n → RnM (fun t => bsum c1 t N ≤ stored) (fun t => fw c0 c1 c2 ask haul stored N d t + bsum c2 (dif t b) N) x v → wp_X12_plansRails_126 K Q n (prW σ f h g) haul ((2 ^ N : Nat) : Int) s b v x := by
  have p := p2_512 hN
  intro k
  induction k with
  | zero =>
    intro x n v hk hn hR
    obtain ⟨n, rfl⟩ : ∃ n', n = n' + 1 := ⟨n - 1, by omega⟩
    have e1 : x = 2 ^ N := by omega
    subst e1
    rw [← RnM_end hN (by omega) hb hh hst hc hR] at q
    unfold wp_X12_plansRails_126
    exact ⟨⟨by omega, by omega⟩, ⟨by omega, by omega⟩, fun _ => q, fun z => absurd (Int.le_refl _) z⟩
  | succ k ih =>
    intro x n v hk hn hR
    obtain ⟨n, rfl⟩ : ∃ n', n = n' + 1 := ⟨n - 1, by omega⟩
    have hx : x < 2 ^ N := by omega
    have ih' := fun v => ih (x + 1) n v (by omega) (by omega)
    have dl := dif_le (x := x) (b := b)
    have a1 := aw_b (c0 := c0) (c1 := c1) (ask := ask) hN hh hst hc d (by omega) x hx
    have h1 := hb_b (x := i_iand (ask s) (i_ixor (bor c0 x N) (-1))) hh
    have bs := bsum_b (c := c2) (B := 999) (n := N) (by decide) hc (t := dif x b) N (Nat.le_refl _)
    have es : 3 - d = s := by omega
    obtain ⟨r1, r2, r3⟩ := hR
    dsimp only at r1 r2
    have vb : 0 ≤ v := by
      rcases r1 with r1 | ⟨t, t1, t2, t3⟩
      · omega
      · have fb := fw_b (c0 := c0) (c1 := c1) (ask := ask) hN hh hst hc (d := d) (by omega) t (by omega)
        have bs := bsum_b (c := c2) (B := 999) (n := N) (by decide) hc (t := dif t b) N (Nat.le_refl _)
        omega
    unfold wp_X12_plansRails_126 wp_X12_plansRails_200 wp_X12_plansRails_202
    rw [prW_r6, prW_r7, prW_r8, Int.toNat_natCast, hhl x hx, dif_i (by omega) (by omega), Int.toNat_natCast, hg (dif x b) (by omega), show Int.toNat (512 * ((s : Int) + 1) + x) = 512 * (s + 1) + x by omega, hf x hx, show ((x : Int) + 1) = ((x + 1 : Nat) : Int) by omega]
    by_cases ok : bsum c1 x N ≤ stored
    · have eh : hlv c0 c1 (ask s) haul stored N x = haul * bcn (i_iand (ask s) (i_ixor (bor c0 x N) (-1))) := by unfold hlv; rw [if_pos ok]
      have ef : fw c0 c1 c2 ask haul stored N d x = haul * bcn (i_iand (ask s) (i_ixor (bor c0 x N) (-1))) + aw c0 c1 c2 ask haul stored N d x := by
        unfold fw frm
        rw [if_pos ok, es]
      rw [eh]
      refine ⟨⟨by omega, by omega⟩, ⟨by omega, by omega⟩, fun z => absurd z (by omega), fun _ => ⟨by omega, by omega, ⟨by omega, by omega⟩, fun _ => ⟨by omega, by omega, by omega, by omega, by omega, by omega, fun w ew => ⟨⟨by omega, by omega⟩, ⟨by omega, by omega⟩, fun z => ih' v ⟨?_, fun t ht ho => ?_, r3⟩, fun z => ih' w ⟨Or.inr ⟨x, by omega, ok, ?_⟩, fun t ht ho => ?_, by omega⟩⟩⟩, fun z => absurd z (by omega)⟩⟩
      · rcases r1 with r1 | ⟨t, t1, t2, t3⟩
        · exact Or.inl r1
        · exact Or.inr ⟨t, by omega, t2, t3⟩
      · dsimp only
        by_cases c : t = x
        · rw [c, ef]
          omega
        · exact r2 t (by omega) ho
      · dsimp only
        rw [ef]
        omega
      · dsimp only
        by_cases c : t = x
        · rw [c, ef]
          omega
        · have := r2 t (by omega) ho
          omega
    · have eh : hlv c0 c1 (ask s) haul stored N x = 100000000 := by unfold hlv; rw [if_neg ok]
      rw [eh]
      refine ⟨⟨by omega, by omega⟩, ⟨by omega, by omega⟩, fun z => absurd z (by omega), fun _ => ⟨by omega, by omega, ⟨by decide, by decide⟩, fun z => absurd rfl z, fun _ => ih' v ⟨?_, fun t ht ho => ?_, r3⟩⟩⟩
      · rcases r1 with r1 | ⟨t, t1, t2, t3⟩
        · exact Or.inl r1
        · exact Or.inr ⟨t, by omega, t2, t3⟩
      · by_cases c : t = x
        · rw [c] at ho
          exact absurd ho ok
        · exact r2 t (by omega) ho
theorem pr112_loop {σ : St} {N s d : Nat} {haul stored : Int} {h g c0 c1 c2 ask : Nat → Int} {K : St → Int → Int → Int → Prop} {Q : St → Prop} (hN : N ≤ 9) (hd : s + d = 3) (hh : 0 ≤ haul ∧ haul ≤ 999) (hst : 0 ≤ stored) (hc : ∀ i, i < N → 0 ≤ c2 i ∧ c2 i ≤ 999) (hhl : ∀ t, t < 2 ^ N → h t = hlv c0 c1 (ask s) haul stored N t) (hg : ∀ t, t < 2 ^ N → g t = bsum c2 t N) (q : ∀ f, (∀ d', d' ≤ d + 1 → ∀ t, t < 2 ^ N → f (512 * (4 - d') + t) = aw c0 c1 c2 ask haul stored N d' t) → K (prW σ f h g) haul ((2 ^ N : Nat) : Int) s) :
    ∀ (k b n : Nat) (f : Nat → Int), b + k = 2 ^ N → k < n → (∀ d', d' ≤ d → ∀ t, t < 2 ^ N → f (512 * (4 - d') + t) = aw c0 c1 c2 ask haul stored N d' t) → (∀ t, t < b → f (512 * s + t) = aw c0 c1 c2 ask haul stored N (d + 1) t) → wp_X12_plansRails_112 K Q n (prW σ f h g) haul ((2 ^ N : Nat) : Int) s b := by
  have p := p2_512 hN
  intro k
  induction k with
  | zero =>
    intro b n f hk hn h1 h2
    obtain ⟨n, rfl⟩ : ∃ n', n = n' + 1 := ⟨n - 1, by omega⟩
    have e1 : b = 2 ^ N := by omega
    subst e1
    unfold wp_X12_plansRails_112
    refine ⟨⟨by omega, by omega⟩, ⟨by omega, by omega⟩, fun _ => q f (fun d' hd' t ht => ?_), fun z => absurd (Int.le_refl _) z⟩
    by_cases c : d' = d + 1
    · rw [c, show 4 - (d + 1) = s by omega]
      exact h2 t ht
    · exact h1 d' (by omega) t ht
  | succ k ih =>
    intro b n f hk hn h1 h2
    obtain ⟨n, rfl⟩ : ∃ n', n = n' + 1 := ⟨n - 1, by omega⟩
    unfold wp_X12_plansRails_112
    refine ⟨⟨by omega, by omega⟩, ⟨by omega, by omega⟩, fun z => absurd z (by omega), fun _ => ⟨2 ^ N + 1, ?_⟩⟩
    refine pr126_loop (d := d) hN hd (by omega) hh hst hc (fun t ht => by rw [show s + 1 = 4 - d by omega]; exact h1 d (Nat.le_refl _) t ht) hhl hg ?_ (2 ^ N) 0 (2 ^ N + 1) 100000000 (by omega) (by omega) ⟨Or.inl rfl, fun t ht => absurd ht (by omega), Int.le_refl _⟩
    unfold wp_X12_plansRails_208
    rw [show Int.toNat (512 * (s : Int) + b) = 512 * s + b by omega, prW_6, show ((b : Int) + 1) = ((b + 1 : Nat) : Int) by omega]
    refine ⟨by omega, by omega, fun s1 e1 => ?_⟩
    rw [e1]
    refine ih (b + 1) n _ (by omega) (by omega) (fun d' hd' t ht => ?_) (fun t ht => ?_)
    · rw [up_ne (by omega)]
      exact h1 d' hd' t ht
    · by_cases c : t = b
      · rw [c, up_eq]
      · rw [up_ne (by omega)]
        exact h2 t (by omega)
theorem pr44_loop {σ : St} {N : Nat} {haul stored : Int} {g : Nat → Int} {Q : St → Prop} (hN : N ≤ 9) (e : σ 12 0 82 = N) (e59 : σ 12 0 59 = stored) (hh : 0 ≤ haul ∧ haul ≤ 999) (hst : 0 ≤ stored ∧ stored ≤ 1000000) (hc1 : ∀ i, i < N → 0 ≤ σ 143 0 i ∧ σ 143 0 i ≤ 50) (hc : ∀ i, i < N → 0 ≤ σ 144 0 i ∧ σ 144 0 i ≤ 999) (hg : ∀ t, t < 2 ^ N → g t = bsum (σ 144 0) t N) (q : ∀ f h, (∀ d', d' ≤ 4 → ∀ t, t < 2 ^ N → f (512 * (4 - d') + t) = aw (σ 142 0) (σ 143 0) (σ 144 0) (σ 145 0) haul stored N d' t) → Q (prW σ f h g)) :
    ∀ (k d n : Nat) (f h : Nat → Int), d + k = 4 → k < n → (∀ d', d' ≤ d → ∀ t, t < 2 ^ N → f (512 * (4 - d') + t) = aw (σ 142 0) (σ 143 0) (σ 144 0) (σ 145 0) haul stored N d' t) → wp_X12_plansRails_44 Q n (prW σ f h g) haul ((2 ^ N : Nat) : Int) (3 - (d : Int)) := by
  have p := p2_512 hN
  intro k
  induction k with
  | zero =>
    intro d n f h hk hn h1
    obtain ⟨n, rfl⟩ : ∃ n', n = n' + 1 := ⟨n - 1, by omega⟩
    have e1 : d = 4 := by omega
    subst e1
    unfold wp_X12_plansRails_44
    exact ⟨⟨by decide, by decide⟩, fun _ => q f h h1, fun z => absurd (by decide) z⟩
  | succ k ih =>
    intro d n f h hk hn h1
    obtain ⟨n, rfl⟩ : ∃ n', n = n' + 1 := ⟨n - 1, by omega⟩
    obtain ⟨s, es⟩ : ∃ s : Nat, s = 3 - d := ⟨_, rfl⟩
    unfold wp_X12_plansRails_44
    rw [show (3 - (d : Int)) = (s : Int) by omega]
    refine ⟨⟨by omega, by omega⟩, fun z => absurd z (by omega), fun _ => ⟨2 ^ N + 1, ?_⟩⟩
    refine pr51_loop hN (by omega) e e59 hst hc1 (fun h' hh' => ?_) (2 ^ N) 0 (2 ^ N + 1) h (by omega) (by omega) (fun t ht => absurd ht (by omega))
    unfold wp_X12_plansRails_109
    refine ⟨2 ^ N + 1, pr112_loop (d := d) (c0 := σ 142 0) (c1 := σ 143 0) (c2 := σ 144 0) (ask := σ 145 0) hN (by omega) hh hst.1 hc hh' hg (fun f' hf' => ?_) (2 ^ N) 0 (2 ^ N + 1) f (by omega) (by omega) h1 (fun t ht => absurd ht (by omega))⟩
    unfold wp_X12_plansRails_229
    rw [show ((s : Int) + -1) = 3 - ((d + 1 : Nat) : Int) by omega]
    exact ih (d + 1) n f' h' (by omega) (by omega) hf'
theorem sm_plansRails {σ : St} {N : Nat} {haul stored : Int} {Q : St → Prop} (hN : N ≤ 9) (e : σ 12 0 82 = N) (e59 : σ 12 0 59 = stored) (hh : 0 ≤ haul ∧ haul ≤ 999) (hst : 0 ≤ stored ∧ stored ≤ 1000000) (hc1 : ∀ i, i < N → 0 ≤ σ 143 0 i ∧ σ 143 0 i ≤ 50) (hc : ∀ i, i < N → 0 ≤ σ 144 0 i ∧ σ 144 0 i ≤ 999) (q : ∀ f h g, (∀ d', d' ≤ 4 → ∀ t, t < 2 ^ N → f (512 * (4 - d') + t) = aw (σ 142 0) (σ 143 0) (σ 144 0) (σ 145 0) haul stored N d' t) → Q (prW σ f h g)) : wp_X12_plansRails σ haul Q := by
  unfold wp_X12_plansRails
  rw [e, shl1 hN]
  intro v ev
  subst ev
  have e0 : prW σ (σ 146 0) (σ 147 0) (σ 148 0) = σ := by
    unfold prW
    rw [sta_self, sta_self, sta_self]
  have l := pr9_loop (σ := σ) (N := N) (haul := haul) (h := σ 147 0) (K := wp_X12_plansRails_42 Q) (Q := Q) hN e (fun f g h1 h2 => ?_) (2 ^ N) 0 (2 ^ N + 1) (σ 146 0) (σ 148 0) (by omega) (by omega) (fun t ht => absurd ht (by omega)) (fun t ht => absurd ht (by omega))
  · rw [e0] at l
    exact ⟨2 ^ N + 1, l⟩
  refine ⟨5, pr44_loop hN e e59 hh hst hc1 hc h2 (fun f' h' hf' => q f' h' g hf') 4 0 5 f (σ 147 0) (by omega) (by omega) (fun d' hd' t ht => ?_)⟩
  have e1 : d' = 0 := by omega
  rw [e1]
  show f (512 * 4 + t) = 0
  rw [show 512 * 4 + t = 2048 + t by omega]
  exact h1 t ht
theorem sm_costs {σ : St} {N s b t : Nat} {haul stored x2 : Int} {Q : Int → St → Prop} (hN : N ≤ 9) (hs : s < 4) (hb : b < 512) (eb : x2 = (b : Int)) (ht : t < 2 ^ N) (e : σ 12 0 82 = N) (e59 : σ 12 0 59 = stored) (hst : 0 ≤ stored ∧ stored ≤ 1000000) (hc1 : ∀ i, i < N → 0 ≤ σ 143 0 i ∧ σ 143 0 i ≤ 50) (q1 : bsum (σ 143 0) t N ≤ stored → Q (bsum (σ 144 0) (dif t b) N + haul * bcn (i_iand (σ 145 0 s) (i_ixor (bor (σ 142 0) t N) (-1)))) σ) (q0 : ¬ bsum (σ 143 0) t N ≤ stored → Q 100000000 σ) : wp_X12_costs σ s x2 t haul Q := by
  have p := p2_512 hN
  have dl := dif_le (x := t) (b := b)
  have ib := bsum_b (c := σ 143 0) (B := 50) (n := N) (by decide) hc1 (t := t) N (Nat.le_refl _)
  unfold wp_X12_costs
  refine sm_ironOf hN e (by omega) ?_
  rw [e59, eb, dif_i (by omega) hb, Int.toNat_natCast]
  exact ⟨⟨by omega, by omega⟩, ⟨by omega, by omega⟩, fun z => sm_layC hN e (by omega) ⟨by omega, by omega, sm_cellsOf hN e (by omega) (sx_bc (q1 z))⟩, q0⟩
theorem ro46_loop {σ : St} {N s b r : Nat} {haul stored x2 x3 : Int} {K : St → Int → Int → Int → Int → Prop} {Q : Int → St → Prop} (hN : N ≤ 9) (hs : s < 4) (hb : b < 2 ^ N) (eb : x3 = (b : Int)) (e : σ 12 0 82 = N) (e59 : σ 12 0 59 = stored) (hh : 0 ≤ haul ∧ haul ≤ 999) (hst : 0 ≤ stored ∧ stored ≤ 1000000) (hc1 : ∀ i, i < N → 0 ≤ σ 143 0 i ∧ σ 143 0 i ≤ 50) (hc : ∀ i, i < N → 0 ≤ σ 144 0 i ∧ σ 144 0 i ≤ 999) (hf : ∀ d', d' ≤ 4 → ∀ t, t < 2 ^ N → σ 146 0 (512 * (4 - d') + t) = aw (σ 142 0) (σ 143 0) (σ 144 0) (σ 145 0) haul stored N d' t) (hr : FB (fun t => fw (σ 142 0) (σ 143 0) (σ 144 0) (σ 145 0) haul stored N (3 - s) t + bsum (σ 144 0) (dif t b) N) (2 ^ N) r) (q : K σ haul x2 s r) :
    ∀ (k x n : Nat), x + k = r → k < n → wp_X12_railsOf_46 K Q n σ haul x2 x3 s x := by
  have p := p2_512 hN
  obtain ⟨r1, r2, r3⟩ := id hr
  have mv := lkN_MinV (c2 := σ 144 0) (A := fw (σ 142 0) (σ 143 0) (σ 144 0) (σ 145 0) haul stored N (3 - s)) (b := b) hN hb
  have em : aw (σ 142 0) (σ 143 0) (σ 144 0) (σ 145 0) haul stored N (3 - s + 1) b = fw (σ 142 0) (σ 143 0) (σ 144 0) (σ 145 0) haul stored N (3 - s) r + bsum (σ 144 0) (dif r b) N := by
    refine MinV_uni ⟨⟨r, r1, rfl⟩, r2⟩ mv
  have ab := aw_b (c0 := σ 142 0) (c1 := σ 143 0) (ask := σ 145 0) hN hh hst.1 hc (3 - s + 1) (by omega) b hb
  have bs := fun u => bsum_b (c := σ 144 0) (B := 999) (n := N) (by decide) hc (t := dif u b) N (Nat.le_refl _)
  have nok : ∀ u, ¬ bsum (σ 143 0) u N ≤ stored → fw (σ 142 0) (σ 143 0) (σ 144 0) (σ 145 0) haul stored N (3 - s) u = 100000000 := fun u z => by
    unfold fw frm
    rw [if_neg z]
  have yok : ∀ u, bsum (σ 143 0) u N ≤ stored → fw (σ 142 0) (σ 143 0) (σ 144 0) (σ 145 0) haul stored N (3 - s) u = haul * bcn (i_iand (σ 145 0 s) (i_ixor (bor (σ 142 0) u N) (-1))) + aw (σ 142 0) (σ 143 0) (σ 144 0) (σ 145 0) haul stored N (3 - s) u := fun u z => by
    unfold fw frm
    rw [if_pos z, show 3 - (3 - s) = s by omega]
  intro k
  induction k with
  | zero =>
    intro x n hk hn
    obtain ⟨n, rfl⟩ : ∃ n', n = n' + 1 := ⟨n - 1, by omega⟩
    have e1 : x = r := by omega
    subst e1
    have okr : bsum (σ 143 0) x N ≤ stored := by
      by_cases z : bsum (σ 143 0) x N ≤ stored
      · exact z
      · have := nok x z
        have := bs x
        omega
    have h1 := hb_b (x := i_iand (σ 145 0 s) (i_ixor (bor (σ 142 0) x N) (-1))) hh
    have b1 := bs x
    have a1 := aw_b (c0 := σ 142 0) (c1 := σ 143 0) (ask := σ 145 0) hN hh hst.1 hc (3 - s) (by omega) x r1
    have f1 := hf (3 - s) (by omega) x r1
    have f2 := hf (3 - s + 1) (by omega) b hb
    rw [show 4 - (3 - s) = s + 1 by omega] at f1
    rw [show 4 - (3 - s + 1) = s by omega] at f2
    have y := yok x okr
    unfold wp_X12_railsOf_46
    refine sm_costs (b := b) hN hs (by omega) eb r1 e e59 hst hc1 (fun _ => ⟨⟨by omega, by omega⟩, fun z => absurd z (by omega), fun _ => ?_⟩) (fun z => absurd okr z)
    refine sm_costs (b := b) hN hs (by omega) eb r1 e e59 hst hc1 (fun _ => ?_) (fun z => absurd okr z)
    rw [eb, show Int.toNat (512 * ((s : Int) + 1) + x) = 512 * (s + 1) + x by omega, show Int.toNat (512 * (s : Int) + b) = 512 * s + b by omega, f1, f2]
    exact ⟨by omega, by omega, by omega, by omega, ⟨by omega, by omega⟩, ⟨by omega, by omega⟩, fun _ => q, fun z => absurd (by omega) z⟩
  | succ k ih =>
    intro x n hk hn
    obtain ⟨n, rfl⟩ : ∃ n', n = n' + 1 := ⟨n - 1, by omega⟩
    have hx : x < 2 ^ N := by omega
    have lt := r3 x (by omega)
    dsimp only at lt
    have h1 := hb_b (x := i_iand (σ 145 0 s) (i_ixor (bor (σ 142 0) x N) (-1))) hh
    have b1 := bs x
    have a1 := aw_b (c0 := σ 142 0) (c1 := σ 143 0) (ask := σ 145 0) hN hh hst.1 hc (3 - s) (by omega) x hx
    have f1 := hf (3 - s) (by omega) x hx
    have f2 := hf (3 - s + 1) (by omega) b hb
    rw [show 4 - (3 - s) = s + 1 by omega] at f1
    rw [show 4 - (3 - s + 1) = s by omega] at f2
    have nx := ih (x + 1) n (by omega) (by omega)
    unfold wp_X12_railsOf_46 wp_X12_railsOf_105
    rw [show ((x : Int) + 1) = ((x + 1 : Nat) : Int) by omega]
    refine sm_costs (b := b) hN hs (by omega) eb hx e e59 hst hc1 (fun ok => ⟨⟨by omega, by omega⟩, fun z => absurd z (by omega), fun _ => ?_⟩) (fun z => ⟨⟨by decide, by decide⟩, fun _ => nx, fun y => absurd rfl y⟩)
    have y := yok x ok
    refine sm_costs (b := b) hN hs (by omega) eb hx e e59 hst hc1 (fun _ => ?_) (fun z => absurd ok z)
    rw [eb, show Int.toNat (512 * ((s : Int) + 1) + x) = 512 * (s + 1) + x by omega, show Int.toNat (512 * (s : Int) + b) = 512 * s + b by omega, f1, f2]
    rw [eb] at nx
    exact ⟨by omega, by omega, by omega, by omega, ⟨by omega, by omega⟩, ⟨by omega, by omega⟩, fun z => absurd z (by omega), fun _ => nx⟩
theorem ro37_loop {σ : St} {N m : Nat} {c : Nat → Nat} {haul stored : Int} {Q : Int → St → Prop} (hN : N ≤ 9) (hm : m ≤ 3) (e : σ 12 0 82 = N) (e59 : σ 12 0 59 = stored) (hh : 0 ≤ haul ∧ haul ≤ 999) (hst : 0 ≤ stored ∧ stored ≤ 1000000) (hc1 : ∀ i, i < N → 0 ≤ σ 143 0 i ∧ σ 143 0 i ≤ 50) (hc : ∀ i, i < N → 0 ≤ σ 144 0 i ∧ σ 144 0 i ≤ 999) (hf : ∀ d', d' ≤ 4 → ∀ t, t < 2 ^ N → σ 146 0 (512 * (4 - d') + t) = aw (σ 142 0) (σ 143 0) (σ 144 0) (σ 145 0) haul stored N d' t) (hch : Chs (σ 142 0) (σ 143 0) (σ 144 0) (σ 145 0) haul stored N c 4) (q : Q (c m) σ) :
    ∀ (k s n : Nat), s + k = m + 1 → k < n → wp_X12_railsOf_37 Q n σ haul m (prv c s : Nat) s := by
  have p := p2_512 hN
  intro k
  induction k with
  | zero =>
    intro s n hk hn
    obtain ⟨n, rfl⟩ : ∃ n', n = n' + 1 := ⟨n - 1, by omega⟩
    have e1 : s = m + 1 := by omega
    subst e1
    unfold wp_X12_railsOf_37
    exact ⟨⟨by omega, by omega⟩, ⟨by omega, by omega⟩, fun _ => q, fun z => absurd (by omega) z⟩
  | succ k ih =>
    intro s n hk hn
    obtain ⟨n, rfl⟩ : ∃ n', n = n' + 1 := ⟨n - 1, by omega⟩
    have pl := Chs_lt hch hN s (by omega)
    have nx := ih (s + 1) n (by omega) (by omega)
    unfold wp_X12_railsOf_37
    refine ⟨⟨by omega, by omega⟩, ⟨by omega, by omega⟩, fun z => absurd z (by omega), fun _ => ⟨c s + 1, ?_⟩⟩
    refine ro46_loop (r := c s) (b := prv c s) hN (by omega) pl.2 rfl e e59 hh hst hc1 hc hf (hch s (by omega)) ?_ (c s) 0 (c s + 1) (by omega) (by omega)
    unfold wp_X12_railsOf_111
    rw [show ((s : Int) + 1) = ((s + 1 : Nat) : Int) by omega]
    exact nx
theorem Inv_rails {n : Nat} {σ S : St} {f h g : Nat → Int} (hI : Inv n σ) (hF : FrR σ S) (h0 : S 43 0 0 = 0 ∧ S 44 0 0 = 0 ∧ S 45 0 0 = 0) : Inv (n + 1) (prW (st S 12 0 0 0) f h g) := by
  obtain ⟨a_sky, a_land, a_price, a_ints, a_logA, a_logB, a_live, a_lying, a_ways, a_crews, a_dbl, a_tape, a_law, a_ord, a_spur, a_cuts, a_cru, a_kf, a_tn⟩ := hI
  obtain ⟨⟨w1, w2, w3⟩, w4, w5, w6, w7, w8, w9⟩ := id a_spur
  have hk : ∀ k, ¬ k = 12 → ¬ k = 43 → ¬ k = 44 → ¬ k = 45 → ¬ k = 47 → ¬ k = 48 → ¬ k = 49 → ¬ k = 146 → ¬ k = 147 → ¬ k = 148 → prW (st S 12 0 0 0) f h g k = σ k := fun k z1 z2 z3 z4 z5 z6 z7 z8 z9 z10 => by
    rw [prW_k z8 z9 z10, rs_ne z1]
    exact hF k z2 z3 z4 z5 z6 z7
  have h12 : ∀ i, ¬ i = 0 → prW (st S 12 0 0 0) f h g 12 0 i = σ 12 0 i := fun i hi => by
    rw [prW_k (by decide) (by decide) (by decide), rs_eq, up_ne hi, hF 12 (by decide) (by decide) (by decide) (by decide) (by decide) (by decide)]
  have h43 : prW (st S 12 0 0 0) f h g 43 0 0 = 0 := by rw [prW_k (by decide) (by decide) (by decide), rs_ne (by decide)]; exact h0.1
  have h44 : prW (st S 12 0 0 0) f h g 44 0 0 = 0 := by rw [prW_k (by decide) (by decide) (by decide), rs_ne (by decide)]; exact h0.2.1
  have h45 : prW (st S 12 0 0 0) f h g 45 0 0 = 0 := by rw [prW_k (by decide) (by decide) (by decide), rs_ne (by decide)]; exact h0.2.2
  obtain ⟨U, eU⟩ : ∃ U, U = prW (st S 12 0 0 0) f h g := ⟨_, rfl⟩
  rw [← eU] at hk h12 h43 h44 h45 ⊢
  clear eU
  unfold Inv
  simp (decide := true) only [hk, h12, not_false_eq_true]
  exact ⟨a_sky, a_land, a_price, I_ints_up a_ints, a_logA, a_logB, a_live, a_lying, a_ways, a_crews, a_dbl, a_tape, a_law, a_ord, ⟨⟨w1, w2, w3⟩, w4, w5, w6, h43, h44, h45⟩, a_cuts, a_cru, a_kf, a_tn⟩
theorem rails_both {n : Nat} {σ : St} {haul : Int} {R : Int → St → Prop} (hI : Inv n σ) (hn : n ≤ 512) (hh : 0 ≤ haul ∧ haul ≤ 999)
    (q : ∀ (S : St) (c : Nat → Nat) (v : Int), (∀ s, s < 4 → S 49 0 s = (c s : Int)) → (∀ i, ¬ i = 0 → S 12 0 i = σ 12 0 i) → (∀ P : St → Prop, (∀ U : St, Inv (n + 1) U → (U 146 0 0 = v) → (∀ (m : Nat) (Q2 : Int → St → Prop), m ≤ 3 → Q2 (c m) U → ∃ n37, wp_X12_railsOf_37 Q2 n37 U haul m 0 0) → P U) → wp_X12_plansRails (st S 12 0 0 0) haul P) → R v S) : wp_X5_planRails σ haul (σ 11 0 7) R := by
  have hI0 := hI
  obtain ⟨a_sky, a_land, a_price, a_ints, a_logA, a_logB, a_live, a_lying, a_ways, a_crews, a_dbl, a_tape, a_law, a_ord, a_spur, a_cuts, a_cru, a_kf, a_tn⟩ := hI
  obtain ⟨⟨w1, w2, w3⟩, ⟨x1, x2, x3, x4⟩, w5, w6, w7, w8, w9⟩ := id a_spur
  obtain ⟨⟨i1, i2, i3⟩, i4, i5, -⟩ := id a_ints
  obtain ⟨N, eN⟩ : ∃ N : Nat, σ 5 0 3 = N := ⟨(σ 5 0 3).toNat, by omega⟩
  have hN : N ≤ 9 := by omega
  have p := p2_512 hN
  have c1 : ∀ i, i < N → 0 ≤ σ 40 0 i ∧ σ 40 0 i ≤ 50 := fun i hi => by have := w5 i (by omega); omega
  have c2 : ∀ i, i < N → 0 ≤ σ 41 0 i ∧ σ 41 0 i ≤ 999 := fun i hi => by have := w5 i (by omega); omega
  refine sx_planRails hN eN ⟨w7, w8, w9⟩ hh (by omega) c1 c2 (fun S c hch hF h0 h49 => ?_)
  have f := fun (k : Nat) (h : k < 43 ∨ 49 < k) => hF k (by omega) (by omega) (by omega) (by omega) (by omega) (by omega)
  refine q S c _ h49 (fun i hi => by rw [f 12 (by omega)]) (fun P hP => ?_)
  obtain ⟨τ, eτ⟩ : ∃ τ, τ = st S 12 0 0 0 := ⟨_, rfl⟩
  rw [← eτ]
  have t12 : ∀ i, ¬ i = 0 → τ 12 0 i = σ 12 0 i := fun i hi => by rw [eτ, rs_eq, up_ne hi, f 12 (by omega)]
  have tk : ∀ k, 83 ≤ k → τ k = σ k := fun k hk => by rw [eτ, rs_ne (by omega), f k (by omega)]
  have t142 : τ 142 0 = σ 39 0 := by rw [tk 142 (by decide), x1]
  have t143 : τ 143 0 = σ 40 0 := by rw [tk 143 (by decide), x2]
  have t144 : τ 144 0 = σ 41 0 := by rw [tk 144 (by decide), x3]
  have t145 : τ 145 0 = σ 42 0 := by rw [tk 145 (by decide), x4]
  refine sm_plansRails (N := N) (stored := σ 11 0 7) hN (by rw [t12 82 (by decide), w1, eN]) (by rw [t12 59 (by decide), i1]) hh (by omega) (by rw [t143]; exact c1) (by rw [t144]; exact c2) (fun g1 g2 g3 hg => ?_)
  rw [t142, t143, t144, t145] at hg
  refine hP _ (by rw [eτ]; exact Inv_rails hI0 hF h0) ?_ (fun m Q2 hm q2 => ⟨m + 2, ?_⟩)
  · rw [prW_r6]
    exact hg 4 (by decide) 0 (by omega)
  · have pk : ∀ k, k < 146 → prW τ g1 g2 g3 k = τ k := fun k z => prW_k (by omega) (by omega) (by omega)
    refine ro37_loop (c := c) hN hm (by rw [pk 12 (by decide), t12 82 (by decide), w1, eN]) (stored := σ 11 0 7) (by rw [pk 12 (by decide), t12 59 (by decide), i1]) hh (by omega) (by rw [pk 143 (by decide), t143]; exact c1) (by rw [pk 144 (by decide), t144]; exact c2) (by rw [prW_r6, pk 142 (by decide), pk 143 (by decide), pk 144 (by decide), pk 145 (by decide), t142, t143, t144, t145]; exact hg) (by rw [pk 142 (by decide), pk 143 (by decide), pk 144 (by decide), pk 145 (by decide), t142, t143, t144, t145]; exact hch) q2 (m + 1) 0 (m + 2) (by omega) (by omega)
theorem op_rails {n : Nat} {σ : St} {x1 : Int} (hI : Inv n σ) (hn : n ≤ 512) (h1 : inR x1) : wp_X11_rails σ x1 (fun r σ1 => wp_X12_rails σ1 x1 (fun r2 σ2 => r2 = r ∧ Inv (n + 1) σ2)) := by
  unfold wp_X11_rails
  refine wi_x h1 in0 ⟨by decide, by decide⟩ (fun a b => ⟨in1, fun c => absurd c (by decide), fun _ => ?_⟩) (fun a => ⟨in0, fun _ => ?_, fun c => absurd rfl c⟩)
  · refine rails_both hI hn ⟨a, b⟩ (fun S c v _ _ go => ?_)
    intro τ eτ
    refine wi_m h1 in0 ⟨by decide, by decide⟩ (fun _ _ => ⟨in1, fun _ => ?_, fun c => absurd c (by decide)⟩) (fun z => absurd ⟨a, b⟩ z)
    rw [eτ]
    refine go _ (fun U hU e _ => ?_)
    rw [show Int.toNat 0 = 0 from rfl]
    exact ⟨e, hU⟩
  · intro τ eτ
    refine wi_m h1 in0 ⟨by decide, by decide⟩ (fun y z => absurd ⟨y, z⟩ a) (fun _ => ⟨in0, fun c => absurd rfl c, fun _ => ⟨rfl, by rw [eτ]; exact Inv_t hI⟩⟩)
theorem op_railsOf {n : Nat} {σ : St} {x1 x2 : Int} (hI : Inv n σ) (hn : n ≤ 512) (h1 : inR x1) (h2 : inR x2) : wp_X11_railsOf σ x1 x2 (fun r σ1 => wp_X12_railsOf σ1 x1 x2 (fun r2 σ2 => r2 = r ∧ Inv (n + 1) σ2)) := by
  have hno : ¬ (0 ≤ x1 ∧ x1 ≤ 999 ∧ 0 ≤ x2 ∧ x2 ≤ 3) → wp_X12_railsOf σ x1 x2 (fun r2 σ2 => r2 = -1 ∧ Inv (n + 1) σ2) := by
    intro hc τ eτ
    have hi : Inv (n + 1) τ := by rw [eτ]; exact Inv_t hI
    refine wi_m h1 in0 ⟨by decide, by decide⟩ (fun a b => ⟨in1, fun c => absurd c (by decide), fun _ => ?_⟩) (fun a => ⟨in0, fun _ => ⟨rfl, hi⟩, fun c => absurd rfl c⟩)
    exact wi_m h2 in0 ⟨by decide, by decide⟩ (fun a2 b2 => absurd ⟨a, b, a2, b2⟩ hc) (fun a2 => ⟨in0, fun c => absurd rfl c, fun _ => ⟨rfl, hi⟩⟩)
  unfold wp_X11_railsOf
  refine wi_x h1 in0 ⟨by decide, by decide⟩ (fun a b => ⟨in1, fun c => absurd c (by decide), fun _ => ?_⟩) (fun a => ⟨in0, fun _ => hno (by omega), fun c => absurd rfl c⟩)
  refine wi_x h2 in0 ⟨by decide, by decide⟩ (fun a2 b2 => ⟨in1, fun _ => ?_, fun c => absurd c (by decide)⟩) (fun a2 => ⟨in0, fun c => absurd rfl c, fun _ => hno (by omega)⟩)
  refine rails_both hI hn ⟨a, b⟩ (fun S c v h49 _ go => ⟨a2, by omega, ?_⟩)
  obtain ⟨m, em⟩ : ∃ m : Nat, x2 = m := ⟨x2.toNat, by omega⟩
  subst em
  rw [Int.toNat_natCast, h49 m (by omega)]
  intro τ eτ
  refine wi_m h1 in0 ⟨by decide, by decide⟩ (fun _ _ => ⟨in1, fun c => absurd c (by decide), fun _ => ?_⟩) (fun z => absurd ⟨a, b⟩ z)
  refine wi_m h2 in0 ⟨by decide, by decide⟩ (fun _ _ => ⟨in1, fun _ => ?_, fun c => absurd c (by decide)⟩) (fun z => absurd ⟨a2, b2⟩ z)
  rw [eτ]
  exact go _ (fun U hU _ ro => ro m _ (by omega) ⟨rfl, hU⟩)
