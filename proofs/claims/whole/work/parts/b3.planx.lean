/-! the plan of rails, of the class -/
def aw (c0 c1 c2 ask : Nat → Int) (haul stored : Int) (N : Nat) : Nat → Nat → Int
  | 0 => fun _ => 0
  | d + 1 => lkN c2 (frm c0 c1 (ask (3 - d)) haul stored (aw c0 c1 c2 ask haul stored N d) N) N
def fw (c0 c1 c2 ask : Nat → Int) (haul stored : Int) (N d : Nat) : Nat → Int := frm c0 c1 (ask (3 - d)) haul stored (aw c0 c1 c2 ask haul stored N d) N
theorem hb_b {haul x : Int} (hh : 0 ≤ haul ∧ haul ≤ 999) : 0 ≤ haul * bcn x ∧ haul * bcn x ≤ 62937 := by
  have b := bcn_b x
  have a := Int.mul_nonneg hh.1 b.1
  have c := Int.mul_le_mul hh.2 b.2 b.1 (show (0 : Int) ≤ 999 by decide)
  omega
theorem dif_0 {b : Nat} : dif 0 b = 0 := by
  unfold dif
  exact Nat.zero_and _
theorem dif_z {t : Nat} (h : t < 512) : dif t 0 = t := by
  unfold dif
  have e : 4294967295 - 0 = 2 ^ 32 - 1 := by decide
  rw [e, Nat.and_two_pow_sub_one_eq_mod]
  exact Nat.mod_eq_of_lt (by omega)
theorem aw_b {c0 c1 c2 ask : Nat → Int} {haul stored : Int} {N : Nat} (hN : N ≤ 9) (hh : 0 ≤ haul ∧ haul ≤ 999) (hs : 0 ≤ stored) (hc : ∀ i, i < N → 0 ≤ c2 i ∧ c2 i ≤ 999) : ∀ d, d ≤ 4 → ∀ b, b < 2 ^ N → 0 ≤ aw c0 c1 c2 ask haul stored N d b ∧ aw c0 c1 c2 ask haul stored N d b ≤ 62937 * (d : Int) := by
  have p := p2_512 hN
  intro d
  induction d with
  | zero => intro _ b _; exact ⟨Int.le_refl _, Int.le_refl _⟩
  | succ d ih =>
    intro hd b hb
    have a := ih (by omega)
    have fb : ∀ t, t < 2 ^ N → 0 ≤ frm c0 c1 (ask (3 - d)) haul stored (aw c0 c1 c2 ask haul stored N d) N t ∧ frm c0 c1 (ask (3 - d)) haul stored (aw c0 c1 c2 ask haul stored N d) N t ≤ 100000000 := by
      intro t ht
      have a1 := a t ht
      have h1 := hb_b (x := i_iand (ask (3 - d)) (i_ixor (bor c0 t N) (-1))) hh
      unfold frm
      split <;> omega
    have lb := lkN_b hN (fun i hi => (hc i hi).1) fb N (Nat.le_refl _) b hb
    have mv := (lkN_MinV (c2 := c2) (A := frm c0 c1 (ask (3 - d)) haul stored (aw c0 c1 c2 ask haul stored N d) N) hN hb).2 0 (by omega)
    have h1 := hb_b (x := i_iand (ask (3 - d)) (i_ixor (bor c0 0 N) (-1))) hh
    have a0 := a 0 (by omega)
    dsimp only at mv
    rw [dif_0, bsum_0] at mv
    have e0 : frm c0 c1 (ask (3 - d)) haul stored (aw c0 c1 c2 ask haul stored N d) N 0 = haul * bcn (i_iand (ask (3 - d)) (i_ixor (bor c0 0 N) (-1))) + aw c0 c1 c2 ask haul stored N d 0 := by
      unfold frm
      rw [bsum_0, if_pos hs]
    rw [e0] at mv
    exact ⟨lb.1, by
      show lkN c2 (frm c0 c1 (ask (3 - d)) haul stored (aw c0 c1 c2 ask haul stored N d) N) N b ≤ _
      omega⟩
theorem fw_b {c0 c1 c2 ask : Nat → Int} {haul stored : Int} {N : Nat} (hN : N ≤ 9) (hh : 0 ≤ haul ∧ haul ≤ 999) (hs : 0 ≤ stored) (hc : ∀ i, i < N → 0 ≤ c2 i ∧ c2 i ≤ 999) {d : Nat} (hd : d ≤ 3) : ∀ t, t < 2 ^ N → 0 ≤ fw c0 c1 c2 ask haul stored N d t ∧ fw c0 c1 c2 ask haul stored N d t ≤ 100000000 := by
  intro t ht
  have a1 := aw_b (c0 := c0) (c1 := c1) (ask := ask) hN hh hs hc d (by omega) t ht
  have h1 := hb_b (x := i_iand (ask (3 - d)) (i_ixor (bor c0 t N) (-1))) hh
  unfold fw frm
  split <;> omega
theorem weigh_loopR {S : St} {c0 c1 c2 : Nat → Int} {N s d : Nat} {haul stored : Int} {Q : St → Prop} (hN : N ≤ 9) (hd : s + d = 3) (e5 : S 5 0 3 = N) (hX : SetX S c0 c1 c2 N) (hh : 0 ≤ haul ∧ haul ≤ 999) (hs : 0 ≤ stored ∧ stored ≤ 1000000) (hc1 : ∀ i, i < N → 0 ≤ c1 i ∧ c1 i ≤ 50) (h48 : 0 < d → ∀ t, t < 2 ^ N → S 48 0 t = aw c0 c1 c2 (S 42 0) haul stored N d t) (q : ∀ f, (∀ t, t < 2 ^ N → f t = fw c0 c1 c2 (S 42 0) haul stored N d t) → Q (sta S 47 s f)) :
    ∀ (k x n : Nat) (f : Nat → Int), x + k = 2 ^ N → k < n → (∀ t, t < x → f t = fw c0 c1 c2 (S 42 0) haul stored N d t) → wp_X5_weighSeason_3 Q n (sta S 47 s f) s haul stored x := by
  have p := p2_512 hN
  have rk : ∀ (k : Nat) (f : Nat → Int), ¬ k = 47 → sta S 47 s f k = S k := fun k f z => ra_ne z
  intro k
  induction k with
  | zero =>
    intro x n f hk hn h
    obtain ⟨n, rfl⟩ : ∃ n', n = n' + 1 := ⟨n - 1, by omega⟩
    have e : x = 2 ^ N := by omega
    subst e
    unfold wp_X5_weighSeason_3
    rw [rk 5 f (by decide), e5, shl1 hN]
    exact ⟨⟨by omega, by omega⟩, ⟨by omega, by omega⟩, fun _ => q f h, fun z => absurd (Int.le_refl _) z⟩
  | succ k ih =>
    intro x n f hk hn h
    obtain ⟨n, rfl⟩ : ∃ n', n = n' + 1 := ⟨n - 1, by omega⟩
    have hx : x < 2 ^ N := by omega
    obtain ⟨x1, x2, x3⟩ := hX x hx
    have ib := bsum_b (c := c1) (B := 50) (n := N) (by decide) hc1 (t := x) N (Nat.le_refl _)
    have go : ∀ y0, y0 = fw c0 c1 c2 (S 42 0) haul stored N d x → wp_X5_weighSeason_84 (fun σ x1 x2 x3 x4 => wp_X5_weighSeason_3 Q n σ x1 x2 x3 x4) Q (sta S 47 s f) s haul stored x y0 x s := by
      intro y0 ey
      unfold wp_X5_weighSeason_84
      rw [Int.toNat_natCast, st_stae, show ((x : Int) + 1) = ((x + 1 : Nat) : Int) by omega]
      refine ⟨by omega, by omega, by omega, fun s4 e4 => ?_⟩
      rw [e4]
      refine ih (x + 1) n _ (by omega) (by omega) (fun t ht => ?_)
      by_cases e : t = x
      · rw [e, up_eq, ey]
      · rw [up_ne e]
        exact h t (by omega)
    have fin : ∀ y0, y0 = aw c0 c1 c2 (S 42 0) haul stored N d x → wp_X5_weighSeason_51 (fun σ x1 x2 x3 x4 => wp_X5_weighSeason_3 Q n σ x1 x2 x3 x4) Q (sta S 47 s f) s haul stored x (bcn (i_iand (S 42 0 s) (i_ixor (bor c0 x N) (-1)))) y0 := by
      intro y0 ey
      unfold wp_X5_weighSeason_51
      rw [Int.toNat_natCast, Int.toNat_natCast, rk 44 f (by decide), x2]
      have es : 3 - d = s := by omega
      refine ⟨by omega, by omega, by omega, by omega, ⟨by omega, by omega⟩, ⟨by omega, by omega⟩, fun z => go _ ?_, fun z => go _ ?_⟩
      · unfold fw frm
        rw [if_pos z, es, ey]
      · unfold fw frm
        rw [if_neg z]
    unfold wp_X5_weighSeason_3
    rw [rk 5 f (by decide), e5, shl1 hN, Int.toNat_natCast, Int.toNat_natCast, rk 42 f (by decide), rk 43 f (by decide), x1]
    refine ⟨⟨by omega, by omega⟩, ⟨by omega, by omega⟩, fun z => absurd z (by omega), fun _ => ⟨by omega, by omega, by omega, by omega, sx_bc ⟨⟨by omega, by omega⟩, fun z => ⟨by omega, by omega, ?_⟩, fun z => ?_⟩⟩⟩
    · rw [rk 48 f (by decide)]
      exact fin _ (h48 (by omega) x hx)
    · refine fin 0 ?_
      have e0 : d = 0 := by omega
      subst e0
      rfl
/-! the first of the best -/
def FB (G : Nat → Int) (m r : Nat) : Prop := r < m ∧ (∀ t, t < m → G r ≤ G t) ∧ ∀ t, t < r → G r < G t
theorem FB_uni {G : Nat → Int} {m r r' : Nat} (h : FB G m r) (h' : FB G m r') : r' = r := by
  obtain ⟨a1, a2, a3⟩ := h
  obtain ⟨b1, b2, b3⟩ := h'
  rcases (show r' < r ∨ r' = r ∨ r < r' by omega) with z | z | z
  · have := a3 r' z
    have := b2 r a1
    omega
  · exact z
  · have := b3 r z
    have := a2 r' b1
    omega
def FrR (σ S : St) : Prop := ∀ k, ¬ k = 43 → ¬ k = 44 → ¬ k = 45 → ¬ k = 47 → ¬ k = 48 → ¬ k = 49 → S k = σ k
theorem cb_v {S : St} {c0 c1 c2 : Nat → Int} {N s b t : Nat} {x2 : Int} {Q : Int → St → Prop} (hN : N ≤ 9) (hs : s < 4) (ht : t < 2 ^ N) (hb : b < 512) (eb : x2 = (b : Int)) (hX : SetX S c0 c1 c2 N) (q : Q (S 47 s t + bsum c2 (dif t b) N) S) : wp_X5_costBehind S s x2 t Q := by
  have p := p2_512 hN
  have dl := dif_le (x := t) (b := b)
  unfold wp_X5_costBehind
  rw [eb, dif_i (by omega) hb, Int.toNat_natCast, Int.toNat_natCast, Int.toNat_natCast, (hX (dif t b) (by omega)).2.2]
  exact ⟨by omega, by omega, hs, by omega, by omega, by omega, by omega, q⟩
theorem fbst_loop {S : St} {c0 c1 c2 F : Nat → Int} {N s b : Nat} {x2 : Int} {Q : Int → St → Prop} (hN : N ≤ 9) (hs : s < 4) (hb : b < 512) (eb : x2 = (b : Int)) (e5 : S 5 0 3 = N) (hX : SetX S c0 c1 c2 N) (h47 : ∀ t, t < 2 ^ N → S 47 s t = F t) (hF : ∀ t, t < 2 ^ N → 0 ≤ F t ∧ F t ≤ 100000000) (hc : ∀ i, i < N → 0 ≤ c2 i ∧ c2 i ≤ 999) (q : ∀ r, FB (fun t => F t + bsum c2 (dif t b) N) (2 ^ N) r → Q r S) :
    ∀ (k x n r : Nat), x + k = 2 ^ N → k < n → 1 ≤ x → FB (fun t => F t + bsum c2 (dif t b) N) x r → wp_X5_firstBest_5 Q n S s x2 r x := by
  have p := p2_512 hN
  intro k
  induction k with
  | zero =>
    intro x n r hk hn h1 h
    obtain ⟨n, rfl⟩ : ∃ n', n = n' + 1 := ⟨n - 1, by omega⟩
    have e : x = 2 ^ N := by omega
    subst e
    unfold wp_X5_firstBest_5
    rw [e5, shl1 hN]
    exact ⟨⟨by omega, by omega⟩, ⟨by omega, by omega⟩, fun _ => q r h, fun z => absurd (Int.le_refl _) z⟩
  | succ k ih =>
    intro x n r hk hn h1 h
    obtain ⟨n, rfl⟩ : ∃ n', n = n' + 1 := ⟨n - 1, by omega⟩
    have hx : x < 2 ^ N := by omega
    obtain ⟨r1, r2, r3⟩ := h
    dsimp only at r2 r3
    have gb : ∀ t, t < 2 ^ N → inR (F t + bsum c2 (dif t b) N) := fun t ht => by
      have a := hF t ht
      have s := bsum_b (c := c2) (B := 999) (n := N) (by decide) hc (t := dif t b) N (Nat.le_refl _)
      exact ⟨by omega, by omega⟩
    unfold wp_X5_firstBest_5 wp_X5_firstBest_37
    rw [e5, shl1 hN, show ((x : Int) + 1) = ((x + 1 : Nat) : Int) by omega]
    refine ⟨⟨by omega, by omega⟩, ⟨by omega, by omega⟩, fun z => absurd z (by omega), fun _ => ?_⟩
    refine cb_v hN hs hx hb eb hX (cb_v hN hs (by omega) hb eb hX ?_)
    rw [h47 x hx, h47 r (by omega)]
    refine ⟨gb x hx, gb r (by omega), fun z => ih (x + 1) n r (by omega) (by omega) (by omega) ⟨by omega, fun t ht => ?_, r3⟩, fun z => ih (x + 1) n x (by omega) (by omega) (by omega) ⟨by omega, fun t ht => ?_, fun t ht => ?_⟩⟩
    · by_cases e : t = x
      · rw [e]; exact z
      · exact r2 t (by omega)
    · dsimp only
      by_cases e : t = x
      · rw [e]; exact Int.le_refl _
      · have := r2 t (by omega)
        omega
    · dsimp only
      have := r2 t ht
      omega
def prv (c : Nat → Nat) : Nat → Nat
  | 0 => 0
  | s + 1 => c s
/-- the sets chosen, season by season -/
def Chs (c0 c1 c2 ask : Nat → Int) (haul stored : Int) (N : Nat) (c : Nat → Nat) (m : Nat) : Prop := ∀ s, s < m → FB (fun t => fw c0 c1 c2 ask haul stored N (3 - s) t + bsum c2 (dif t (prv c s)) N) (2 ^ N) (c s)
theorem Chs_lt {c0 c1 c2 ask : Nat → Int} {haul stored : Int} {N m : Nat} {c : Nat → Nat} (h : Chs c0 c1 c2 ask haul stored N c m) (hN : N ≤ 9) : ∀ s, s ≤ m → prv c s < 512 ∧ prv c s < 2 ^ N := by
  have p := p2_512 hN
  intro s hs
  cases s with
  | zero => exact ⟨by show 0 < 512; decide, by show 0 < 2 ^ N; omega⟩
  | succ s =>
    have := (h s (by omega)).1
    exact ⟨by show c s < 512; omega, this⟩
theorem ch_loop {σ : St} {c0 c1 c2 : Nat → Int} {N : Nat} {haul stored : Int} {K : St → Prop} {Q : Int → St → Prop} (hN : N ≤ 9) (hh : 0 ≤ haul ∧ haul ≤ 999) (hs : 0 ≤ stored) (hc : ∀ i, i < N → 0 ≤ c2 i ∧ c2 i ≤ 999) (e5 : σ 5 0 3 = N) (hX : SetX σ c0 c1 c2 N) (h47 : ∀ s, s < 4 → ∀ t, t < 2 ^ N → σ 47 s t = fw c0 c1 c2 (σ 42 0) haul stored N (3 - s) t) (q : ∀ g c, Chs c0 c1 c2 (σ 42 0) haul stored N c 4 → (∀ s, s < 4 → g s = (c s : Int)) → K (sta σ 49 0 g)) :
    ∀ (k s n : Nat) (g : Nat → Int) (c : Nat → Nat) (x3 : Int), s + k = 4 → k < n → Chs c0 c1 c2 (σ 42 0) haul stored N c s → (∀ s', s' < s → g s' = (c s' : Int)) → x3 = (prv c s : Int) → wp_X5_planRails_33 K Q n (sta σ 49 0 g) x3 s := by
  have p := p2_512 hN
  intro k
  induction k with
  | zero =>
    intro s n g c x3 hk hn h1 h2 h3
    obtain ⟨n, rfl⟩ : ∃ n', n = n' + 1 := ⟨n - 1, by omega⟩
    have e : s = 4 := by omega
    subst e
    unfold wp_X5_planRails_33
    exact ⟨⟨by decide, by decide⟩, fun _ => q g c h1 h2, fun z => absurd (by decide) z⟩
  | succ k ih =>
    intro s n g c x3 hk hn h1 h2 h3
    obtain ⟨n, rfl⟩ : ∃ n', n = n' + 1 := ⟨n - 1, by omega⟩
    have pl := Chs_lt h1 hN s (Nat.le_refl _)
    have rk : ∀ k, ¬ k = 49 → sta σ 49 0 g k = σ k := fun k z => ra_ne z
    unfold wp_X5_planRails_33
    refine ⟨⟨by omega, by omega⟩, fun z => absurd z (by omega), fun _ => ⟨2 ^ N + 1, ?_⟩⟩
    have hX' : SetX (sta σ 49 0 g) c0 c1 c2 N := by
      unfold SetX
      rw [rk 43 (by decide), rk 44 (by decide), rk 45 (by decide)]
      exact hX
    refine fbst_loop (F := fw c0 c1 c2 (σ 42 0) haul stored N (3 - s)) hN (by omega) pl.1 h3 (by rw [rk 5 (by decide)]; exact e5) hX' (by rw [rk 47 (by decide)]; exact h47 s (by omega)) (fw_b hN hh hs hc (by omega)) hc (fun r hr => ⟨by omega, by omega, fun s8 e8 => ?_⟩) (2 ^ N - 1) 1 (2 ^ N + 1) 0 (by omega) (by omega) (by omega) ⟨by decide, fun t ht => ?_, fun t ht => absurd ht (by omega)⟩
    · have e : t = 0 := by omega
      rw [e]
      exact Int.le_refl _
    · rw [Int.toNat_natCast, st_stae] at e8
      subst e8
      rw [Int.toNat_natCast, ra_eq, up_eq, show ((s : Int) + 1) = ((s + 1 : Nat) : Int) by omega]
      refine ⟨by omega, by omega, fun v ev => ?_⟩
      have cs : ∀ i, i < s → (fun i => if i = s then r else c i) i = c i := fun i hi => if_neg (by omega)
      have pv : ∀ i, i ≤ s → prv (fun i => if i = s then r else c i) i = prv c i := fun i hi => by
        cases i with
        | zero => rfl
        | succ i => exact cs i (by omega)
      refine ih (s + 1) n _ (fun i => if i = s then r else c i) v (by omega) (by omega) (fun i hi => ?_) (fun i hi => ?_) ?_
      · rw [pv i (by omega)]
        by_cases e : i = s
        · rw [e]
          dsimp only
          rw [if_pos rfl]
          exact hr
        · rw [cs i (by omega)]
          exact h1 i (by omega)
      · by_cases e : i = s
        · rw [e, up_eq, if_pos rfl]
        · rw [up_ne e, if_neg e]
          exact h2 i (by omega)
      · rw [ev]
        show (r : Int) = ((if s = s then r else c s : Nat) : Int)
        rw [if_pos rfl]
theorem seas_loop {σ : St} {c0 c1 c2 : Nat → Int} {N : Nat} {haul stored : Int} {K : St → Prop} {Q : Int → St → Prop} (hN : N ≤ 9) (hh : 0 ≤ haul ∧ haul ≤ 999) (hs : 0 ≤ stored ∧ stored ≤ 1000000) (hc1 : ∀ i, i < N → 0 ≤ c1 i ∧ c1 i ≤ 50) (hc : ∀ i, i < N → 0 ≤ c2 i ∧ c2 i ≤ 999) (e5 : σ 5 0 3 = N) (e41 : σ 41 0 = c2) (q : ∀ S, SetX S c0 c1 c2 N → FrR σ S → (∀ s, s < 4 → ∀ t, t < 2 ^ N → S 47 s t = fw c0 c1 c2 (σ 42 0) haul stored N (3 - s) t) → K S) :
    ∀ (k d n : Nat) (S : St), d + k = 4 → k < n → SetX S c0 c1 c2 N → FrR σ S → (0 < d → ∀ t, t < 2 ^ N → S 48 0 t = aw c0 c1 c2 (σ 42 0) haul stored N d t) → (∀ d', d' < d → ∀ t, t < 2 ^ N → S 47 (3 - d') t = fw c0 c1 c2 (σ 42 0) haul stored N d' t) → wp_X5_planRails_6 K Q n S haul stored (3 - (d : Int)) := by
  have p := p2_512 hN
  intro k
  induction k with
  | zero =>
    intro d n S hk hn hX hF h48 h47
    obtain ⟨n, rfl⟩ : ∃ n', n = n' + 1 := ⟨n - 1, by omega⟩
    have e : d = 4 := by omega
    subst e
    unfold wp_X5_planRails_6
    refine ⟨⟨by decide, by decide⟩, fun _ => q S hX hF (fun s hs t ht => ?_), fun z => absurd (by decide) z⟩
    have := h47 (3 - s) (by omega) t ht
    rw [show 3 - (3 - s) = s by omega] at this
    exact this
  | succ k ih =>
    intro d n S hk hn hX hF h48 h47
    obtain ⟨n, rfl⟩ : ∃ n', n = n' + 1 := ⟨n - 1, by omega⟩
    have s42 : S 42 = σ 42 := hF 42 (by decide) (by decide) (by decide) (by decide) (by decide) (by decide)
    have s5 : S 5 0 3 = N := by rw [hF 5 (by decide) (by decide) (by decide) (by decide) (by decide) (by decide), e5]
    have s41 : S 41 0 = c2 := by rw [hF 41 (by decide) (by decide) (by decide) (by decide) (by decide) (by decide), e41]
    obtain ⟨s, es⟩ : ∃ s : Nat, s = 3 - d := ⟨_, rfl⟩
    unfold wp_X5_planRails_6
    rw [show (3 - (d : Int)) = (s : Int) by omega]
    refine ⟨⟨by omega, by omega⟩, fun z => absurd z (by omega), fun _ => ⟨2 ^ N + 1, ?_⟩⟩
    have e0 : sta S 47 s (S 47 s) = S := sta_self
    have wl := weigh_loopR (S := S) (s := s) (d := d) (haul := haul) (stored := stored) (Q := fun σ_14 => wp_X5_lookAhead σ_14 s (fun σ_15 => wp_X5_planRails_6 K Q n σ_15 haul stored ((s : Int) + -1))) hN (by omega) s5 hX hh hs hc1 (by rw [s42]; exact h48) (fun f hf => ?_) (2 ^ N) 0 (2 ^ N + 1) (S 47 s) (by omega) (by omega) (fun t ht => absurd ht (by omega))
    · rw [e0] at wl
      exact wl
    rw [s42] at hf
    have rk : ∀ k, ¬ k = 47 → sta S 47 s f k = S k := fun k z => ra_ne z
    refine sx_look (A := fw c0 c1 c2 (σ 42 0) haul stored N d) hN (by omega) (by rw [rk 5 (by decide)]; exact s5) (by rw [rk 41 (by decide), s41]; exact hc) (fun b hb => by rw [ra_eq]; exact hf b hb) (fw_b hN hh hs.1 hc (by omega)) (fun g hg => ?_)
    rw [rk 41 (by decide), s41] at hg
    rw [show ((s : Int) + -1) = 3 - ((d + 1 : Nat) : Int) by omega]
    refine ih (d + 1) n _ (by omega) (by omega) ?_ (fun k z1 z2 z3 z4 z5 z6 => by rw [ra_ne z5, ra_ne z4]; exact hF k z1 z2 z3 z4 z5 z6) (fun _ t ht => ?_) (fun d' hd' t ht => ?_)
    · unfold SetX
      simp (decide := true) only [ra_ne, not_false_eq_true]
      exact hX
    · rw [ra_eq]
      exact hg t ht
    · rw [ra_ne (by decide)]
      by_cases e : d' = d
      · rw [e, ← es, ra_eq]
        exact hf t ht
      · rw [ra_nej (by omega)]
        exact h47 d' (by omega) t ht
theorem sx_planRails {σ : St} {N : Nat} {haul stored : Int} {Q : Int → St → Prop} (hN : N ≤ 9) (e5 : σ 5 0 3 = N) (h0 : σ 43 0 0 = 0 ∧ σ 44 0 0 = 0 ∧ σ 45 0 0 = 0) (hh : 0 ≤ haul ∧ haul ≤ 999) (hs : 0 ≤ stored ∧ stored ≤ 1000000) (hc1 : ∀ i, i < N → 0 ≤ σ 40 0 i ∧ σ 40 0 i ≤ 50) (hc : ∀ i, i < N → 0 ≤ σ 41 0 i ∧ σ 41 0 i ≤ 999)
    (q : ∀ S c, Chs (σ 39 0) (σ 40 0) (σ 41 0) (σ 42 0) haul stored N c 4 → FrR σ S → (S 43 0 0 = 0 ∧ S 44 0 0 = 0 ∧ S 45 0 0 = 0) → (∀ s, s < 4 → S 49 0 s = (c s : Int)) → Q (aw (σ 39 0) (σ 40 0) (σ 41 0) (σ 42 0) haul stored N 4 0) S) : wp_X5_planRails σ haul stored Q := by
  have p := p2_512 hN
  unfold wp_X5_planRails
  refine sx_sets hN e5 h0 (fun A hA hF => ⟨5, ?_⟩)
  have f := fun (k : Nat) (h : k < 43 ∨ 45 < k) => hF k (by omega) (by omega) (by omega)
  have sl := seas_loop (σ := A) (c0 := σ 39 0) (c1 := σ 40 0) (c2 := σ 41 0) (N := N) (haul := haul) (stored := stored) (K := wp_X5_planRails_28 Q) (Q := Q) hN hh hs hc1 hc (by rw [f 5 (by omega)]; exact e5) (by rw [f 41 (by omega)]) (fun S hX hFr h47 => ?_) 4 0 5 A (by omega) (by omega) hA (fun k _ _ _ _ _ _ => rfl) (fun z => absurd z (by omega)) (fun d' hd' => absurd hd' (by omega))
  · exact sl
  rw [f 42 (by omega)] at h47
  have s42 : S 42 0 = σ 42 0 := by rw [hFr 42 (by decide) (by decide) (by decide) (by decide) (by decide) (by decide), f 42 (by omega)]
  unfold wp_X5_planRails_28
  have e0 : sta S 49 0 (S 49 0) = S := sta_self
  have cl := ch_loop (σ := S) (c0 := σ 39 0) (c1 := σ 40 0) (c2 := σ 41 0) (N := N) (haul := haul) (stored := stored) (K := wp_X5_planRails_67 Q) (Q := Q) hN hh hs.1 hc (by rw [hFr 5 (by decide) (by decide) (by decide) (by decide) (by decide) (by decide), f 5 (by omega)]; exact e5) hX (by rw [s42]; exact h47) (fun g c hch hg => ?_) 4 0 5 (S 49 0) (fun _ => 0) 0 (by omega) (by omega) (fun s hs => absurd hs (by omega)) (fun s hs => absurd hs (by omega)) rfl
  · rw [e0] at cl
    exact ⟨5, cl⟩
  rw [s42] at hch
  have rk : ∀ k, ¬ k = 49 → sta S 49 0 g k = S k := fun k z => ra_ne z
  have fb := hch 0 (by decide)
  have c0l := fb.1
  unfold wp_X5_planRails_67
  rw [ra_eq, show Int.toNat 0 = 0 from rfl, hg 0 (by decide)]
  have hX' : SetX (sta S 49 0 g) (σ 39 0) (σ 40 0) (σ 41 0) N := by
    unfold SetX
    rw [rk 43 (by decide), rk 44 (by decide), rk 45 (by decide)]
    exact hX
  refine cb_v (s := 0) (b := 0) hN (by decide) c0l (by decide) rfl hX' ?_
  have ev : sta S 49 0 g 47 0 (c 0) + bsum (σ 41 0) (dif (c 0) 0) N = aw (σ 39 0) (σ 40 0) (σ 41 0) (σ 42 0) haul stored N 4 0 := by
    rw [rk 47 (by decide), h47 0 (by decide) (c 0) c0l]
    have mv := lkN_MinV (c2 := σ 41 0) (A := fw (σ 39 0) (σ 40 0) (σ 41 0) (σ 42 0) haul stored N 3) (b := 0) hN (by omega)
    refine MinV_uni mv ⟨⟨c 0, c0l, rfl⟩, fb.2.1⟩
  rw [ev]
  have z := hX' 0 (by omega)
  rw [bor_0, bsum_0, bsum_0] at z
  refine q _ c hch (fun k z1 z2 z3 z4 z5 z6 => ?_) z (fun s hs => by rw [ra_eq]; exact hg s hs)
  rw [rk k z6, hFr k z1 z2 z3 z4 z5 z6, f k (by omega)]
