/-! fire: what it leaves, of the reference -/
def stH (σ : St) (s t a b c : Nat → Int) : St := sta (sta (sta (sta (sta σ 84 0 s) 85 0 t) 102 0 a) 104 0 b) 105 0 c
theorem stH_84 {σ : St} {s t a b c : Nat → Int} {i : Nat} {v : Int} : st (stH σ s t a b c) 84 0 i v = stH σ (up s i v) t a b c := by
  unfold stH
  rw [st_stac (by decide), st_stac (by decide), st_stac (by decide), st_stac (by decide), st_stae]
theorem stH_85 {σ : St} {s t a b c : Nat → Int} {i : Nat} {v : Int} : st (stH σ s t a b c) 85 0 i v = stH σ s (up t i v) a b c := by
  unfold stH
  rw [st_stac (by decide), st_stac (by decide), st_stac (by decide), st_stae]
theorem stH_102 {σ : St} {s t a b c : Nat → Int} {i : Nat} {v : Int} : st (stH σ s t a b c) 102 0 i v = stH σ s t (up a i v) b c := by
  unfold stH
  rw [st_stac (by decide), st_stac (by decide), st_stae]
theorem stH_104 {σ : St} {s t a b c : Nat → Int} {i : Nat} {v : Int} : st (stH σ s t a b c) 104 0 i v = stH σ s t a (up b i v) c := by
  unfold stH
  rw [st_stac (by decide), st_stae]
theorem stH_105 {σ : St} {s t a b c : Nat → Int} {i : Nat} {v : Int} : st (stH σ s t a b c) 105 0 i v = stH σ s t a b (up c i v) := by
  unfold stH
  rw [st_stae]
theorem rH {σ : St} {s t a b c : Nat → Int} {k : Nat} (h1 : ¬ k = 84) (h2 : ¬ k = 85) (h3 : ¬ k = 102) (h4 : ¬ k = 104) (h5 : ¬ k = 105) : stH σ s t a b c k = σ k := by
  unfold stH
  rw [ra_ne h5, ra_ne h4, ra_ne h3, ra_ne h2, ra_ne h1]
theorem rH_102 {σ : St} {s t a b c : Nat → Int} : stH σ s t a b c 102 0 = a := by
  unfold stH
  rw [ra_ne (by decide), ra_ne (by decide), ra_eq]
theorem rH_85 {σ : St} {s t a b c : Nat → Int} : stH σ s t a b c 85 0 = t := by
  unfold stH
  rw [ra_ne (by decide), ra_ne (by decide), ra_ne (by decide), ra_eq]
/-- which logs have burnt: cells below c, and those below j in c -/
def Pcj (σ : St) (g : Nat → Int) (c j : Nat) : Nat → Prop := fun i => ((i : Int) < σ 12 0 17 ∧ σ 102 0 i = 0 ∧ ¬ g (σ 95 0 i).toNat = 0) ∧ (σ 95 0 i < c ∨ (σ 95 0 i = c ∧ i < j))
noncomputable def stL (σ : St) (s t : Nat → Int) (P : Nat → Prop) : St := stH σ s t (cfv (σ 102 0) (fun _ => 3) P) (cfv (σ 104 0) (fun _ => σ 12 0 1) (at5 P 3)) (cfv (σ 105 0) (kdv (σ 12 0 1) (σ 12 0 7) (σ 95 0)) (at5 P 3))
theorem stL_same {σ : St} {s t : Nat → Int} {P P' : Nat → Prop} (h : ∀ i, P' i ↔ P i) : stL σ s t P' = stL σ s t P := by
  rw [show P' = P from funext (fun i => propext (h i))]
theorem stL_up {σ : St} {s t : Nat → Int} {P P' : Nat → Prop} {j : Nat} {kd : Int} (h : ∀ i, P' i ↔ P i ∨ i = j) (hk : kd = σ 12 0 1 + Int.tdiv (apv (σ 95 0 j) (σ 12 0 7)) 4) : bcm (stL σ s t P) j 3 3 (σ 12 0 1) kd = stL σ s t P' := by
  have e := cfv_up (a := σ 105 0) (v := kdv (σ 12 0 1) (σ 12 0 7) (σ 95 0)) (at5_up (x := 3) (by decide) h)
  have ev : kdv (σ 12 0 1) (σ 12 0 7) (σ 95 0) (5 * j + 3) = kd := by
    unfold kdv
    rw [show (5 * j + 3) / 5 = j by omega, hk]
  rw [ev] at e
  unfold bcm stL
  rw [stH_102, stH_104, stH_105, cfv_up (a := σ 102 0) (v := fun _ => 3) h, cfv_up (a := σ 104 0) (v := fun _ => σ 12 0 1) (at5_up (x := 3) (by decide) h), e]
/-- what the reference needs -/
def LiR (σ : St) : Prop := (0 ≤ σ 12 0 17 ∧ σ 12 0 17 ≤ 300) ∧ (0 ≤ σ 12 0 7 ∧ σ 12 0 7 ≤ 63) ∧ (∀ i : Nat, (i : Int) < σ 12 0 17 → 0 ≤ σ 95 0 i ∧ σ 95 0 i ≤ 63 ∧ 0 ≤ σ 102 0 i ∧ σ 102 0 i ≤ 4)
theorem rl_loop {σ : St} {g s t : Nat → Int} {c : Nat} {x4 : Int} {K : St → Int → Int → Prop} {Q : Int → St → Prop} (hL : LiR σ) (hc : c < 64) (hg : ¬ g c = 0) (q : K (stL σ s t (Pcj σ g (c + 1) 0)) x4 c) :
    ∀ (k j n : Nat), (j : Int) + k = σ 12 0 17 → k < n → wp_X12_fires_263 K Q n (stL σ s t (Pcj σ g c j)) x4 c j := by
  obtain ⟨l1, l2, l3⟩ := hL
  intro k
  induction k with
  | zero =>
    intro j n hk hn
    obtain ⟨n, rfl⟩ : ∃ n', n = n' + 1 := ⟨n - 1, by omega⟩
    have r12 : stL σ s t (Pcj σ g c j) 12 = σ 12 := rH (by decide) (by decide) (by decide) (by decide) (by decide)
    unfold wp_X12_fires_263
    rw [r12]
    refine ⟨⟨by omega, by omega⟩, ⟨by omega, by omega⟩, fun _ => ?_, fun z => absurd (by omega) z⟩
    rw [← stL_same (P := Pcj σ g c j) (P' := Pcj σ g (c + 1) 0) (fun i => ?_)]
    · exact q
    · unfold Pcj
      constructor
      · rintro ⟨y1, y2⟩
        exact ⟨y1, by omega⟩
      · rintro ⟨y1, y2⟩
        exact ⟨y1, by omega⟩
  | succ k ih =>
    intro j n hk hn
    obtain ⟨n, rfl⟩ : ∃ n', n = n' + 1 := ⟨n - 1, by omega⟩
    have hj : (j : Int) < σ 12 0 17 := by omega
    obtain ⟨m1, m2, m3, m4⟩ := l3 j hj
    have nx := ih (j + 1) n (by omega) (by omega)
    have r12 : stL σ s t (Pcj σ g c j) 12 = σ 12 := rH (by decide) (by decide) (by decide) (by decide) (by decide)
    have r95 : stL σ s t (Pcj σ g c j) 95 = σ 95 := rH (by decide) (by decide) (by decide) (by decide) (by decide)
    have r102 : stL σ s t (Pcj σ g c j) 102 0 j = cfv (σ 102 0) (fun _ => 3) (Pcj σ g c j) j := by unfold stL; rw [rH_102]
    have hcf : (cfv (σ 102 0) (fun _ => 3) (Pcj σ g c j) j = 3 ∧ Pcj σ g c j j) ∨ (cfv (σ 102 0) (fun _ => 3) (Pcj σ g c j) j = σ 102 0 j ∧ ¬ Pcj σ g c j j) := by
      by_cases p : Pcj σ g c j j
      · exact Or.inl ⟨cfv_p p, p⟩
      · exact Or.inr ⟨cfv_n p, p⟩
    have sk : ¬ (σ 102 0 j = 0 ∧ σ 95 0 j = c) → wp_X12_fires_301 (fun σ x4 x5 x6 => wp_X12_fires_263 K Q n σ x4 x5 x6) K Q (stL σ s t (Pcj σ g c j)) x4 c j := by
      intro hno
      unfold wp_X12_fires_301
      rw [show ((j : Int) + 1) = ((j + 1 : Nat) : Int) by omega, ← stL_same (P := Pcj σ g c j) (P' := Pcj σ g c (j + 1)) (fun i => ?_)]
      · exact nx
      · unfold Pcj
        constructor
        · rintro ⟨y1, y2⟩
          refine ⟨y1, ?_⟩
          by_cases e : i = j
          · rw [e] at y1 y2 ⊢
            have : ¬ σ 95 0 j = c := fun z => hno ⟨y1.2.1, z⟩
            omega
          · omega
        · rintro ⟨y1, y2⟩
          exact ⟨y1, by omega⟩
    unfold wp_X12_fires_263
    rw [Int.toNat_natCast, r12, r95, r102]
    refine ⟨⟨by omega, by omega⟩, ⟨by omega, by omega⟩, fun z => absurd z (by omega), fun _ => ⟨by omega, by omega, ?_, fun y => sk (fun z => ?_), fun y => ?_⟩⟩
    · rcases hcf with ⟨h, -⟩ | ⟨h, -⟩ <;> exact ⟨by omega, by omega⟩
    · rcases hcf with ⟨h, p⟩ | ⟨h, p⟩
      · have := p.2
        omega
      · omega
    · have hp : σ 102 0 j = 0 ∧ ¬ Pcj σ g c j j := by
        rcases hcf with ⟨h, p⟩ | ⟨h, p⟩
        · omega
        · exact ⟨by omega, p⟩
      refine ⟨by omega, by omega, ⟨by omega, by omega⟩, ⟨by omega, by omega⟩, fun z => sk (fun u => z u.2), fun z => ?_⟩
      refine sm_becomes (k := 3) (td := σ 12 0 1) (cell := σ 95 0 j) (by omega) rfl (by decide) (by rw [r95]) (by omega) (by rw [r12]; exact l2) (by rw [r12]) ?_
      rw [r12, stL_up (P' := Pcj σ g c (j + 1)) (fun i => ?_) rfl]
      · unfold wp_X12_fires_301
        rw [show ((j : Int) + 1) = ((j + 1 : Nat) : Int) by omega]
        exact nx
      · unfold Pcj
        constructor
        · rintro ⟨y1, y2⟩
          by_cases e : i = j
          · exact Or.inr e
          · exact Or.inl ⟨y1, by omega⟩
        · rintro (⟨y1, y2⟩ | y1)
          · exact ⟨y1, by omega⟩
          · rw [y1]
            exact ⟨⟨hj, hp.1, by rw [z, Int.toNat_natCast]; exact hg⟩, Or.inr ⟨z, by omega⟩⟩
theorem rt_loop {σ : St} {s t : Nat → Int} {c : Nat} {x4 : Int} {P : Nat → Prop} {K : St → Int → Int → Prop} {Q : Int → St → Prop} (hc : c < 64) (ht : ∀ i, 0 ≤ t i ∧ t i ≤ 200) (q : K (stL σ s (hv t c 16) P) x4 c) :
    ∀ (k m n : Nat), m + k = 16 → k < n → wp_X12_fires_213 K Q n (stL σ s (hv t c m) P) x4 c ((16 * c + m : Nat) : Int) := by
  intro k
  induction k with
  | zero =>
    intro m n hk hn
    obtain ⟨n, rfl⟩ : ∃ n', n = n' + 1 := ⟨n - 1, by omega⟩
    have e : m = 16 := by omega
    subst e
    unfold wp_X12_fires_213
    exact ⟨⟨by omega, by omega⟩, ⟨by omega, by omega⟩, fun _ => q, fun z => absurd (by omega) z⟩
  | succ k ih =>
    intro m n hk hn
    obtain ⟨n, rfl⟩ : ∃ n', n = n' + 1 := ⟨n - 1, by omega⟩
    have nx := ih (m + 1) n (by omega) (by omega)
    have ns : hv t c (m + 1) = up (hv t c m) (16 * c + m) (if 2 ≤ m % 4 then Int.tdiv (hv t c m (16 * c + m)) 2 else 0) := rfl
    have hb := hv_b (c := c) ht m (16 * c + m)
    have r85 : stL σ s (hv t c m) P 85 0 = hv t c m := by unfold stL; rw [rH_85]
    have em : Int.tmod ((16 * c + m : Nat) : Int) 4 = ((m % 4 : Nat) : Int) := by
      rw [Int.tmod_eq_emod_of_nonneg (by omega)]
      omega
    unfold wp_X12_fires_213 wp_X12_fires_253
    rw [Int.toNat_natCast, em, r85, show (((16 * c + m : Nat) : Int) + 1) = ((16 * c + (m + 1) : Nat) : Int) by omega]
    refine ⟨⟨by omega, by omega⟩, ⟨by omega, by omega⟩, fun z => absurd z (by omega), fun _ => ⟨⟨by omega, by omega⟩, ⟨by omega, by omega⟩, fun y => ⟨by omega, by omega, ⟨by omega, by omega⟩, by omega, by omega, fun s1 e1 => ?_⟩, fun y => ⟨by omega, by omega, fun s1 e1 => ?_⟩⟩⟩
    · unfold stL at e1 nx
      rw [stH_85] at e1
      rw [ns, if_pos (by omega)] at nx
      rw [e1]
      exact nx
    · unfold stL at e1 nx
      rw [stH_85] at e1
      rw [ns, if_neg (by omega)] at nx
      rw [e1]
      exact nx
