/-! the plan of rails, of the reference -/
theorem ir_loop {σ : St} {N t : Nat} {Q : Int → St → Prop} (hN : N ≤ 9) (e : σ 12 0 82 = N) (ht : t < 512) (q : Q (bsum (σ 143 0) t N) σ) : ∀ (k i n : Nat), i + k = N → k < n → wp_X12_ironOf_4 Q n σ t (bsum (σ 143 0) t i) i := by
  intro k
  induction k with
  | zero =>
    intro i n hk hn
    obtain ⟨n, rfl⟩ : ∃ n', n = n' + 1 := ⟨n - 1, by omega⟩
    have e1 : i = N := by omega
    subst e1
    unfold wp_X12_ironOf_4
    rw [e]
    exact ⟨⟨by omega, by omega⟩, ⟨by omega, by omega⟩, fun _ => q, fun z => absurd (Int.le_refl _) z⟩
  | succ k ih =>
    intro i n hk hn
    obtain ⟨n, rfl⟩ : ∃ n', n = n' + 1 := ⟨n - 1, by omega⟩
    have nx := ih (i + 1) n (by omega) (by omega)
    have es : bsum (σ 143 0) t (i + 1) = bsum (σ 143 0) t i + (if Nat.testBit t i then σ 143 0 i else 0) := rfl
    rw [es] at nx
    unfold wp_X12_ironOf_4 wp_X12_ironOf_32
    rw [e, bit_test ht (by omega), Int.toNat_natCast, show ((i : Int) + 1) = ((i + 1 : Nat) : Int) by omega]
    refine ⟨⟨by omega, by omega⟩, ⟨by omega, by omega⟩, fun z => absurd z (by omega), fun _ => ?_⟩
    cases h : Nat.testBit t i
    · rw [h] at nx
      exact ⟨⟨by decide, by decide⟩, fun _ v ev => by rw [ev]; exact nx, fun z => absurd z (by decide)⟩
    · rw [h] at nx
      exact ⟨⟨by decide, by decide⟩, fun z => absurd rfl z, fun _ => ⟨by omega, by omega, fun v ev => by rw [ev]; exact nx⟩⟩
theorem ly_loop {σ : St} {N t : Nat} {Q : Int → St → Prop} (hN : N ≤ 9) (e : σ 12 0 82 = N) (ht : t < 512) (q : Q (bsum (σ 144 0) t N) σ) : ∀ (k i n : Nat), i + k = N → k < n → wp_X12_layCost_4 Q n σ t (bsum (σ 144 0) t i) i := by
  intro k
  induction k with
  | zero =>
    intro i n hk hn
    obtain ⟨n, rfl⟩ : ∃ n', n = n' + 1 := ⟨n - 1, by omega⟩
    have e1 : i = N := by omega
    subst e1
    unfold wp_X12_layCost_4
    rw [e]
    exact ⟨⟨by omega, by omega⟩, ⟨by omega, by omega⟩, fun _ => q, fun z => absurd (Int.le_refl _) z⟩
  | succ k ih =>
    intro i n hk hn
    obtain ⟨n, rfl⟩ : ∃ n', n = n' + 1 := ⟨n - 1, by omega⟩
    have nx := ih (i + 1) n (by omega) (by omega)
    have es : bsum (σ 144 0) t (i + 1) = bsum (σ 144 0) t i + (if Nat.testBit t i then σ 144 0 i else 0) := rfl
    rw [es] at nx
    unfold wp_X12_layCost_4 wp_X12_layCost_32
    rw [e, bit_test ht (by omega), Int.toNat_natCast, show ((i : Int) + 1) = ((i + 1 : Nat) : Int) by omega]
    refine ⟨⟨by omega, by omega⟩, ⟨by omega, by omega⟩, fun z => absurd z (by omega), fun _ => ?_⟩
    cases h : Nat.testBit t i
    · rw [h] at nx
      exact ⟨⟨by decide, by decide⟩, fun _ v ev => by rw [ev]; exact nx, fun z => absurd z (by decide)⟩
    · rw [h] at nx
      exact ⟨⟨by decide, by decide⟩, fun z => absurd rfl z, fun _ => ⟨by omega, by omega, fun v ev => by rw [ev]; exact nx⟩⟩
theorem ce_loop {σ : St} {N t : Nat} {Q : Int → St → Prop} (hN : N ≤ 9) (e : σ 12 0 82 = N) (ht : t < 512) (q : Q (bor (σ 142 0) t N) σ) : ∀ (k i n : Nat), i + k = N → k < n → wp_X12_cellsOf_4 Q n σ t (bor (σ 142 0) t i) i := by
  intro k
  induction k with
  | zero =>
    intro i n hk hn
    obtain ⟨n, rfl⟩ : ∃ n', n = n' + 1 := ⟨n - 1, by omega⟩
    have e1 : i = N := by omega
    subst e1
    unfold wp_X12_cellsOf_4
    rw [e]
    exact ⟨⟨by omega, by omega⟩, ⟨by omega, by omega⟩, fun _ => q, fun z => absurd (Int.le_refl _) z⟩
  | succ k ih =>
    intro i n hk hn
    obtain ⟨n, rfl⟩ : ∃ n', n = n' + 1 := ⟨n - 1, by omega⟩
    have nx := ih (i + 1) n (by omega) (by omega)
    have es : bor (σ 142 0) t (i + 1) = i_ior (bor (σ 142 0) t i) (if Nat.testBit t i then σ 142 0 i else 0) := rfl
    rw [es] at nx
    unfold wp_X12_cellsOf_4 wp_X12_cellsOf_32
    rw [e, bit_test ht (by omega), Int.toNat_natCast, show ((i : Int) + 1) = ((i + 1 : Nat) : Int) by omega]
    refine ⟨⟨by omega, by omega⟩, ⟨by omega, by omega⟩, fun z => absurd z (by omega), fun _ => ?_⟩
    cases h : Nat.testBit t i
    · rw [h] at nx
      exact ⟨⟨by decide, by decide⟩, fun _ v ev => by rw [ev]; exact nx, fun z => absurd z (by decide)⟩
    · rw [h] at nx
      exact ⟨⟨by decide, by decide⟩, fun z => absurd rfl z, fun _ => ⟨by omega, by omega, fun v ev => by rw [ev]; exact nx⟩⟩
theorem sm_ironOf {σ : St} {N t : Nat} {Q : Int → St → Prop} (hN : N ≤ 9) (e : σ 12 0 82 = N) (ht : t < 512) (q : Q (bsum (σ 143 0) t N) σ) : wp_X12_ironOf σ t Q := ⟨N + 1, ir_loop hN e ht q N 0 (N + 1) (by omega) (by omega)⟩
theorem sm_layC {σ : St} {N t : Nat} {Q : Int → St → Prop} (hN : N ≤ 9) (e : σ 12 0 82 = N) (ht : t < 512) (q : Q (bsum (σ 144 0) t N) σ) : wp_X12_layCost σ t Q := ⟨N + 1, ly_loop hN e ht q N 0 (N + 1) (by omega) (by omega)⟩
theorem sm_cellsOf {σ : St} {N t : Nat} {Q : Int → St → Prop} (hN : N ≤ 9) (e : σ 12 0 82 = N) (ht : t < 512) (q : Q (bor (σ 142 0) t N) σ) : wp_X12_cellsOf σ t Q := ⟨N + 1, ce_loop hN e ht q N 0 (N + 1) (by omega) (by omega)⟩
/-- its three rows -/
def prW (σ : St) (f h g : Nat → Int) : St := sta (sta (sta σ 146 0 f) 147 0 h) 148 0 g
theorem prW_k {σ : St} {f h g : Nat → Int} {k : Nat} (h1 : ¬ k = 146) (h2 : ¬ k = 147) (h3 : ¬ k = 148) : prW σ f h g k = σ k := by
  unfold prW
  rw [ra_ne h3, ra_ne h2, ra_ne h1]
theorem prW_6 {σ : St} {f h g : Nat → Int} {i : Nat} {v : Int} : st (prW σ f h g) 146 0 i v = prW σ (up f i v) h g := by
  unfold prW
  rw [st_stac (by decide), st_stac (by decide), st_stae]
theorem prW_7 {σ : St} {f h g : Nat → Int} {i : Nat} {v : Int} : st (prW σ f h g) 147 0 i v = prW σ f (up h i v) g := by
  unfold prW
  rw [st_stac (by decide), st_stae]
theorem prW_8 {σ : St} {f h g : Nat → Int} {i : Nat} {v : Int} : st (prW σ f h g) 148 0 i v = prW σ f h (up g i v) := by
  unfold prW
  rw [st_stae]
theorem prW_r6 {σ : St} {f h g : Nat → Int} : prW σ f h g 146 0 = f := by
  unfold prW
  rw [ra_ne (by decide), ra_ne (by decide), ra_eq]
theorem prW_r7 {σ : St} {f h g : Nat → Int} : prW σ f h g 147 0 = h := by
  unfold prW
  rw [ra_ne (by decide), ra_eq]
theorem prW_r8 {σ : St} {f h g : Nat → Int} : prW σ f h g 148 0 = g := by
  unfold prW
  rw [ra_eq]
theorem pr9_loop {σ : St} {N : Nat} {haul : Int} {h : Nat → Int} {K : St → Int → Int → Prop} {Q : St → Prop} (hN : N ≤ 9) (e : σ 12 0 82 = N) (q : ∀ f g, (∀ t, t < 2 ^ N → f (2048 + t) = 0) → (∀ t, t < 2 ^ N → g t = bsum (σ 144 0) t N) → K (prW σ f h g) haul ((2 ^ N : Nat) : Int)) :
    ∀ (k x n : Nat) (f g : Nat → Int), x + k = 2 ^ N → k < n → (∀ t, t < x → f (2048 + t) = 0) → (∀ t, t < x → g t = bsum (σ 144 0) t N) → wp_X12_plansRails_9 K Q n (prW σ f h g) haul ((2 ^ N : Nat) : Int) x := by
  have p := p2_512 hN
  intro k
  induction k with
  | zero =>
    intro x n f g hk hn h1 h2
    obtain ⟨n, rfl⟩ : ∃ n', n = n' + 1 := ⟨n - 1, by omega⟩
    have e1 : x = 2 ^ N := by omega
    subst e1
    unfold wp_X12_plansRails_9
    exact ⟨⟨by omega, by omega⟩, ⟨by omega, by omega⟩, fun _ => q f g h1 h2, fun z => absurd (Int.le_refl _) z⟩
  | succ k ih =>
    intro x n f g hk hn h1 h2
    obtain ⟨n, rfl⟩ : ∃ n', n = n' + 1 := ⟨n - 1, by omega⟩
    unfold wp_X12_plansRails_9
    rw [show Int.toNat (2048 + (x : Int)) = 2048 + x by omega, Int.toNat_natCast, show ((x : Int) + 1) = ((x + 1 : Nat) : Int) by omega, prW_6]
    refine ⟨⟨by omega, by omega⟩, ⟨by omega, by omega⟩, fun z => absurd z (by omega), fun _ => ⟨by omega, by omega, fun s e1 => ?_⟩⟩
    subst e1
    refine sm_layC hN (by rw [prW_k (by decide) (by decide) (by decide)]; exact e) (by omega) ⟨by omega, by omega, fun s e2 => ?_⟩
    rw [prW_8, prW_k (by decide) (by decide) (by decide)] at e2
    rw [e2]
    refine ih (x + 1) n _ _ (by omega) (by omega) (fun t ht => ?_) (fun t ht => ?_)
    · by_cases c : t = x
      · rw [c, up_eq]
      · rw [up_ne (by omega)]
        exact h1 t (by omega)
    · by_cases c : t = x
      · rw [c, up_eq]
      · rw [up_ne c]
        exact h2 t (by omega)
/-- what a set is hauled for in a season, or too dear -/
def hlv (c0 c1 : Nat → Int) (ask haul stored : Int) (N t : Nat) : Int := if bsum c1 t N ≤ stored then haul * bcn (i_iand ask (i_ixor (bor c0 t N) (-1))) else 100000000
theorem pr51_loop {σ : St} {N s : Nat} {haul stored : Int} {f g : Nat → Int} {K : St → Int → Int → Int → Prop} {Q : St → Prop} (hN : N ≤ 9) (hs : s < 4) (e : σ 12 0 82 = N) (e59 : σ 12 0 59 = stored) (hst : 0 ≤ stored ∧ stored ≤ 1000000) (hc1 : ∀ i, i < N → 0 ≤ σ 143 0 i ∧ σ 143 0 i ≤ 50) (q : ∀ h, (∀ t, t < 2 ^ N → h t = hlv (σ 142 0) (σ 143 0) (σ 145 0 s) haul stored N t) → K (prW σ f h g) haul ((2 ^ N : Nat) : Int) s) :
    ∀ (k x n : Nat) (h : Nat → Int), x + k = 2 ^ N → k < n → (∀ t, t < x → h t = hlv (σ 142 0) (σ 143 0) (σ 145 0 s) haul stored N t) → wp_X12_plansRails_51 K Q n (prW σ f h g) haul ((2 ^ N : Nat) : Int) s x := by
  have p := p2_512 hN
  intro k
  induction k with
  | zero =>
    intro x n h hk hn h1
    obtain ⟨n, rfl⟩ : ∃ n', n = n' + 1 := ⟨n - 1, by omega⟩
    have e1 : x = 2 ^ N := by omega
    subst e1
    unfold wp_X12_plansRails_51
    exact ⟨⟨by omega, by omega⟩, ⟨by omega, by omega⟩, fun _ => q h h1, fun z => absurd (Int.le_refl _) z⟩
  | succ k ih =>
    intro x n h hk hn h1
    obtain ⟨n, rfl⟩ : ∃ n', n = n' + 1 := ⟨n - 1, by omega⟩
    have pk : ∀ k, k < 146 → prW σ f h g k = σ k := fun k z => prW_k (by omega) (by omega) (by omega)
    have ib := bsum_b (c := σ 143 0) (B := 50) (n := N) (by decide) hc1 (t := x) N (Nat.le_refl _)
    have go : ∀ y0, y0 = hlv (σ 142 0) (σ 143 0) (σ 145 0 s) haul stored N x → wp_X12_plansRails_102 (fun σ x1 x2 x3 x4 => wp_X12_plansRails_51 K Q n σ x1 x2 x3 x4) K Q (prW σ f h g) haul ((2 ^ N : Nat) : Int) s x y0 x := by
      intro y0 ey
      unfold wp_X12_plansRails_102
      rw [Int.toNat_natCast, prW_7, show ((x : Int) + 1) = ((x + 1 : Nat) : Int) by omega]
      refine ⟨by omega, by omega, fun s1 e1 => ?_⟩
      rw [e1]
      refine ih (x + 1) n _ (by omega) (by omega) (fun t ht => ?_)
      by_cases c : t = x
      · rw [c, up_eq, ey]
      · rw [up_ne c]
        exact h1 t (by omega)
    unfold wp_X12_plansRails_51
    refine ⟨⟨by omega, by omega⟩, ⟨by omega, by omega⟩, fun z => absurd z (by omega), fun _ => ?_⟩
    refine sm_ironOf hN (by rw [pk 12 (by decide)]; exact e) (by omega) ?_
    rw [pk 143 (by decide), pk 12 (by decide), e59, Int.toNat_natCast, pk 145 (by decide)]
    refine ⟨⟨by omega, by omega⟩, ⟨by omega, by omega⟩, fun z => ⟨by omega, by omega, sm_cellsOf hN (by rw [pk 12 (by decide)]; exact e) (by omega) (sx_bc (go _ ?_))⟩, fun z => go _ ?_⟩
    · unfold hlv
      rw [if_pos z, pk 142 (by decide)]
    · unfold hlv
      rw [if_neg z]
