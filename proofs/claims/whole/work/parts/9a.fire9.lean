/-! fire: both in whole -/
theorem cfv_none {a v : Nat → Int} {P : Nat → Prop} (h : ∀ i, ¬ P i) : cfv a v P = a := funext (fun i => cfv_n (h i))
theorem rc_loop {σ : St} {g : Nat → Int} {Q : Int → St → Prop} (hL : LiR σ) (hg : ∀ c, c < 64 → g c = σ 141 0 c + 1) (hb : ∀ c, c < 64 → -1 ≤ σ 141 0 c ∧ σ 141 0 c ≤ 100) (ht : ∀ i, 0 ≤ σ 85 0 i ∧ σ 85 0 i ≤ 200) (q : Q (lit g 64) (stL σ (clS g (σ 84 0) 64) (clT g (σ 85 0) 64) (Pcj σ g 64 0))) :
    ∀ (k c n : Nat), c + k = 64 → k < n → wp_X12_fires_174 Q n (stL σ (clS g (σ 84 0) c) (clT g (σ 85 0) c) (Pcj σ g c 0)) (lit g c) c := by
  intro k
  induction k with
  | zero =>
    intro c n hk hn
    obtain ⟨n, rfl⟩ : ∃ n', n = n' + 1 := ⟨n - 1, by omega⟩
    have e : c = 64 := by omega
    subst e
    unfold wp_X12_fires_174
    exact ⟨⟨by decide, by decide⟩, fun _ => q, fun z => absurd (by decide) z⟩
  | succ k ih =>
    intro c n hk hn
    obtain ⟨n, rfl⟩ : ∃ n', n = n' + 1 := ⟨n - 1, by omega⟩
    have hc : c < 64 := by omega
    have nx := ih (c + 1) n (by omega) (by omega)
    have b := hb c hc
    have gc := hg c hc
    have n1 : clS g (σ 84 0) (c + 1) = if g c = 0 then clS g (σ 84 0) c else up (clS g (σ 84 0) c) c 0 := rfl
    have n2 : clT g (σ 85 0) (c + 1) = if g c = 0 then clT g (σ 85 0) c else hv (clT g (σ 85 0) c) c 16 := rfl
    have n3 : lit g (c + 1) = lit g c + if g c = 0 then 0 else 1 := rfl
    rw [n1, n2, n3] at nx
    have r141 : stL σ (clS g (σ 84 0) c) (clT g (σ 85 0) c) (Pcj σ g c 0) 141 = σ 141 := rH (by decide) (by decide) (by decide) (by decide) (by decide)
    unfold wp_X12_fires_174
    rw [Int.toNat_natCast, r141]
    refine ⟨⟨by omega, by omega⟩, fun z => absurd z (by omega), fun _ => ⟨by omega, by omega, ⟨by omega, by omega⟩, fun y => ⟨by omega, by omega, fun s1 e1 v ev => ⟨17, ?_⟩⟩, fun y => ?_⟩⟩
    · have g0 : ¬ g c = 0 := by omega
      rw [if_neg g0, if_neg g0, if_neg g0] at nx
      unfold stL at e1
      rw [stH_84] at e1
      rw [ev, show 16 * (c : Int) = ((16 * c + 0 : Nat) : Int) by omega, e1]
      refine rt_loop (σ := σ) (s := up (clS g (σ 84 0) c) c 0) (t := clT g (σ 85 0) c) (P := Pcj σ g c 0) hc (clT_b ht c) ?_ 16 0 17 (by omega) (by omega)
      refine ⟨301, rl_loop (j := 0) hL hc g0 ?_ (σ 12 0 17).toNat 301 ?_ ?_⟩
      · unfold wp_X12_fires_307
        rw [show ((c : Int) + 1) = ((c + 1 : Nat) : Int) by omega]
        exact nx
      · have := hL.1
        omega
      · have := hL.1
        omega
    · have g0 : g c = 0 := by omega
      rw [if_pos g0, if_pos g0, if_pos g0, Int.add_zero] at nx
      unfold wp_X12_fires_307
      rw [show ((c : Int) + 1) = ((c + 1 : Nat) : Int) by omega, ← stL_same (P := Pcj σ g c 0) (P' := Pcj σ g (c + 1) 0) (fun i => ?_)]
      · exact nx
      · unfold Pcj
        constructor
        · rintro ⟨y1, y2⟩
          refine ⟨y1, ?_⟩
          by_cases e : σ 95 0 i = c
          · have := y1.2.2
            rw [e, Int.toNat_natCast] at this
            exact absurd g0 this
          · omega
        · rintro ⟨y1, y2⟩
          exact ⟨y1, by omega⟩
/-- a fire, of the reference -/
theorem fire_m {τ : St} {first m : Nat} {w : Int} {Q : Int → St → Prop} (hF : FiR τ) (hL : LiR τ) (hw : 0 ≤ w ∧ w ≤ 3) (hm : m ≤ 20) (h1 : first < 64) (q : ∀ f : Nat → Int, Spread (CatR τ w) first m f → Q (lit (fun c => f c + 1) 64) (stL (sta τ 141 0 f) (clS (fun c => f c + 1) (τ 84 0) 64) (clT (fun c => f c + 1) (τ 85 0) 64) (Pcj τ (fun c => f c + 1) 64 0))) : wp_X12_fires τ first w m Q := by
  refine sm_fires hF hw hm h1 (fun f hf => ?_)
  have b := Spread_b m f hf
  have q2 := q f hf
  obtain ⟨S, eS⟩ : ∃ S : St, S = sta τ 141 0 f := ⟨_, rfl⟩
  have rk : ∀ k, ¬ k = 141 → S k = τ k := fun k h => by rw [eS, ra_ne h]
  have r141 : S 141 0 = f := by rw [eS, ra_eq]
  have hL2 : LiR S := by
    unfold LiR
    rw [rk 12 (by decide), rk 95 (by decide), rk 102 (by decide)]
    exact hL
  have eP : ∀ c j, Pcj S (fun c => f c + 1) c j = Pcj τ (fun c => f c + 1) c j := by
    intro c j
    unfold Pcj
    rw [rk 12 (by decide), rk 95 (by decide), rk 102 (by decide)]
  rw [← eS] at q2 ⊢
  have e := rc_loop (σ := S) (g := fun c => f c + 1) (Q := Q) hL2 (fun c _ => by rw [r141]) (fun c hc => by rw [r141]; have := b c hc; omega) (by rw [rk 85 (by decide)]; exact hF.2.2.2.2) (by rw [rk 84 (by decide), rk 85 (by decide), eP]; exact q2) 64 0 65 (by omega) (by omega)
  have e0 : stL S (clS (fun c => f c + 1) (S 84 0) 0) (clT (fun c => f c + 1) (S 85 0) 0) (Pcj S (fun c => f c + 1) 0 0) = S := by
    have hn : ∀ i, ¬ Pcj S (fun c => f c + 1) 0 0 i := by
      rintro i ⟨⟨y0, -⟩, y⟩
      have := (hL2.2.2 i y0).1
      omega
    unfold stL
    rw [cfv_none hn, cfv_none (fun k y => hn _ y.1), cfv_none (fun k y => hn _ y.1)]
    show sta (sta (sta (sta (sta S 84 0 (S 84 0)) 85 0 (S 85 0)) 102 0 (S 102 0)) 104 0 (S 104 0)) 105 0 (S 105 0) = S
    rw [sta_self, sta_self, sta_self, sta_self, sta_self]
  rw [e0] at e
  exact ⟨65, e⟩
def stC (σ : St) (g : Nat → Int) : St := sta (sta (sta σ 34 0 g) 29 0 (clS g (σ 29 0) 64)) 30 0 (clT g (σ 30 0) 64)
theorem rC {σ : St} {g : Nat → Int} {k : Nat} (h1 : ¬ k = 34) (h2 : ¬ k = 29) (h3 : ¬ k = 30) : stC σ g k = σ k := by
  unfold stC
  rw [ra_ne h3, ra_ne h2, ra_ne h1]
/-- a fire, of the class -/
theorem fire_x {σ : St} {first m : Nat} {w : Int} {Q : Int → St → Prop} (hX : FiX σ) (hS : SkyX (σ 7 0) (σ 64 0) (σ 65 0)) (hw : 0 ≤ w ∧ w ≤ 3) (hm : m ≤ 20) (h1 : first < 64) (hl : 0 ≤ σ 11 0 4 ∧ σ 11 0 4 ≤ 300) (hv : ∀ i : Nat, (i : Int) < σ 11 0 4 → σ 77 0 i ≠ 0 ∧ σ 50 4 i ≠ 0) (hmi : 0 ≤ σ 3 0 6 ∧ σ 3 0 6 ≤ 63)
    (hA : I_logA (σ 11 0 4) (σ 4) (σ 38) (σ 96 0) (σ 97 0) (σ 98 0) (σ 99 0) (σ 100 0) (σ 101 0) (σ 106 0) (σ 107 0) (σ 108 0)) (hB : I_logB (σ 11 0 4) (σ 4) (σ 35) (σ 36) (σ 37) (σ 95 0) (σ 103 0) (σ 102 0) (σ 104 0) (σ 105 0)) (hY : I_lying (σ 11 0 4) (σ 31 0) (σ 102 0) (σ 95 0))
    (q : ∀ (g : Nat → Int) (S : St), Spread (CatX σ w (wea σ 2)) first m (fun c => g c - 1) → LgX (stC σ g) S 3 (σ 7 0 3) (fun i => (i : Int) < σ 11 0 4 ∧ σ 102 0 i = 0 ∧ ¬ g (σ 95 0 i).toNat = 0) → Q (lit g 64) S) : wp_X11_burnFrom σ first w m Q := by
  have wi := wea_in hS 2
  refine sx_now hS (by decide) (by decide) (sx_spread hX hw wi hm h1 (fun g hg => ?_))
  have b := Spread_b m _ hg
  have r29 : sta σ 34 0 g 29 0 = σ 29 0 := by rw [ra_ne (by decide)]
  have r30 : sta σ 34 0 g 30 0 = σ 30 0 := by rw [ra_ne (by decide)]
  have gb : ∀ c, c < 64 → 0 ≤ g c ∧ g c ≤ 100 := fun c hc => by have := b c hc; omega
  have e := cb_loop (σ := sta σ 34 0 g) (g := g) (s := σ 29 0) (t := σ 30 0) (Q := fun σ_21 => ∃ n30, wp_X11_burnFrom_30 Q n30 σ_21 (lit g 64) 0) ra_eq gb hX.2.2 ?_ 64 0 65 (by omega) (by omega)
  · have e0 : sta (sta (sta σ 34 0 g) 29 0 (clS g (σ 29 0) 0)) 30 0 (clT g (σ 30 0) 0) = sta σ 34 0 g := by
      show sta (sta (sta σ 34 0 g) 29 0 (σ 29 0)) 30 0 (σ 30 0) = sta σ 34 0 g
      rw [← r29, sta_self, ← r30, sta_self]
    rw [e0] at e
    exact ⟨65, e⟩
  · show ∃ n30, wp_X11_burnFrom_30 Q n30 (stC σ g) (lit g 64) 0
    have c34 : stC σ g 34 0 = g := by
      unfold stC
      rw [ra_ne (by decide), ra_ne (by decide), ra_eq]
    have q2 := fun S => q g S hg
    have rk : ∀ k, ¬ k = 34 → ¬ k = 29 → ¬ k = 30 → stC σ g k = σ k := fun k z1 z2 z3 => rC z1 z2 z3
    obtain ⟨T, eT⟩ : ∃ T : St, T = stC σ g := ⟨_, rfl⟩
    rw [← eT] at c34 rk q2 ⊢
    have k11 := rk 11 (by decide) (by decide) (by decide)
    have k102 := rk 102 (by decide) (by decide) (by decide)
    have k95 := rk 95 (by decide) (by decide) (by decide)
    have k7 := rk 7 (by decide) (by decide) (by decide)
    have k3 := rk 3 (by decide) (by decide) (by decide)
    refine ⟨301, bl_loop (σ := T) (by rw [k11]; exact hl) (by rw [k11, rk 77 (by decide) (by decide) (by decide), rk 50 (by decide) (by decide) (by decide)]; exact hv) (by rw [c34]; exact gb) (by rw [k3]; exact hmi) (by rw [k7]; have := hS.1; omega) (fun S hS2 => ?_) (T 11 0 4).toNat 0 301 T (by omega) (by rw [k11]; omega) ?_⟩
    · rw [k11, k102, k95, k7, c34] at hS2
      exact q2 S hS2
    · refine ⟨fun _ _ _ _ _ _ => rfl, ?_, ?_, ?_⟩
      · rw [k11, rk 4 (by decide) (by decide) (by decide), rk 38 (by decide) (by decide) (by decide), rk 96 (by decide) (by decide) (by decide), rk 97 (by decide) (by decide) (by decide), rk 98 (by decide) (by decide) (by decide), rk 99 (by decide) (by decide) (by decide), rk 100 (by decide) (by decide) (by decide), rk 101 (by decide) (by decide) (by decide), rk 106 (by decide) (by decide) (by decide), rk 107 (by decide) (by decide) (by decide), rk 108 (by decide) (by decide) (by decide)]
        exact hA
      · rw [cfv_none (fun i y => absurd y.1 (by omega)), cfv_none (fun i y => absurd y.1.1 (by omega)), cfv_none (fun i y => absurd y.1.1 (by omega)), k11, rk 4 (by decide) (by decide) (by decide), rk 35 (by decide) (by decide) (by decide), rk 36 (by decide) (by decide) (by decide), rk 37 (by decide) (by decide) (by decide), k95, k102, rk 103 (by decide) (by decide) (by decide), rk 104 (by decide) (by decide) (by decide), rk 105 (by decide) (by decide) (by decide)]
        exact hB
      · rw [cfv_none (fun i y => absurd y.1 (by omega)), k11, k95, k102, rk 31 (by decide) (by decide) (by decide)]
        exact hY
