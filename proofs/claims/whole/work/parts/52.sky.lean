/-! the model's sky: the same telling -/
def skyv (s w d : Nat → Int) (t what : Int) : Int := if t = -1 then (if what = 0 then 0 else if what = 1 then 5 else 3) else if what = 0 then s t.toNat else if what = 1 then w t.toNat else d t.toNat
theorem sky_loop {σ : St} {x1 x2 : Int} {K : St → Int → Int → Prop} {Q : Int → St → Prop} (hm2 : σ 12 0 8 ≤ 200) (hd : ∀ i, inR (σ 88 0 i)) (hx : inR x1) (q : K σ x2 (lat (σ 88 0) x1 (σ 12 0 8).toNat)) : ∀ (k i n : Nat), k < n → (i : Int) + k = σ 12 0 8 → wp_X12_sky_5 K Q n σ x1 x2 (lat (σ 88 0) x1 i) i := by
  intro k
  induction k with
  | zero =>
    intro i n hn hi
    obtain ⟨n, rfl⟩ : ∃ n', n = n' + 1 := ⟨n - 1, by omega⟩
    unfold wp_X12_sky_5
    refine ⟨⟨by omega, by omega⟩, ⟨by omega, by omega⟩, fun _ => ?_, fun h => absurd (by omega) h⟩
    rw [show (σ 12 0 8).toNat = i by omega] at q
    exact q
  | succ k ih =>
    intro i n hn hi
    obtain ⟨n, rfl⟩ : ∃ n', n = n' + 1 := ⟨n - 1, by omega⟩
    have hb := lat_b (σ 88 0) x1 i
    have nx := ih (i + 1) n (by omega) (by omega)
    unfold wp_X12_sky_5
    unfold wp_X12_sky_46 wp_X12_sky_49
    refine ⟨⟨by omega, by omega⟩, ⟨by omega, by omega⟩, fun h => absurd h (by omega), fun _ => ⟨by omega, by omega, hd _, hx, fun h => ?_, fun h => ⟨⟨by omega, by omega⟩, fun h2 => ?_, fun h2 => ⟨by omega, by omega, by omega, by omega, hd _, hd _, fun h3 => ?_, fun h3 => ?_⟩⟩⟩⟩
    all_goals
      rw [show ((i : Int) + 1) = ((i + 1 : Nat) : Int) by omega]
      have e : (Int.toNat (i : Int)) = i := by omega
      rw [e] at h
    · rw [show lat (σ 88 0) x1 (i + 1) = lat (σ 88 0) x1 i by
        show (if _ then _ else _) = _
        rw [if_neg (by omega)]] at nx
      exact nx
    · rw [show lat (σ 88 0) x1 (i + 1) = (i : Int) by
        show (if _ then _ else _) = _
        rw [if_pos ⟨by omega, Or.inl h2⟩]] at nx
      exact nx
    · rw [e] at h3
      rw [show lat (σ 88 0) x1 (i + 1) = lat (σ 88 0) x1 i by
        show (if _ then _ else _) = _
        rw [if_neg (by omega)]] at nx
      exact nx
    · rw [e] at h3
      rw [show lat (σ 88 0) x1 (i + 1) = (i : Int) by
        show (if _ then _ else _) = _
        rw [if_pos ⟨by omega, Or.inr (by omega)⟩]] at nx
      exact nx
theorem sm_sky {σ : St} {x1 x2 : Int} {Q : Int → St → Prop} (hm : 0 ≤ σ 12 0 8) (hm2 : σ 12 0 8 ≤ 200) (hd : ∀ i, inR (σ 88 0 i)) (hx : inR x1) (h2 : inR x2) (q : Q (skyv (σ 89 0) (σ 90 0) (σ 91 0) (lat (σ 88 0) x1 (σ 12 0 8).toNat) x2) σ) : wp_X12_sky σ x1 x2 Q := by
  unfold wp_X12_sky
  refine ⟨201, sky_loop hm2 hd hx ?_ (σ 12 0 8).toNat 0 201 (by omega) (by omega)⟩
  have hb := lat_b (σ 88 0) x1 (σ 12 0 8).toNat
  unfold skyv at q
  unfold wp_X12_sky_55
  generalize lat (σ 88 0) x1 (σ 12 0 8).toNat = t at hb q ⊢
  refine ⟨⟨by omega, by omega⟩, fun c => ⟨h2, fun c2 => ⟨h2, fun c3 => ⟨by omega, by omega, ?_⟩, fun c3 => ⟨by omega, by omega, ?_⟩⟩, fun c2 => ⟨by omega, by omega, ?_⟩⟩, fun c => ⟨h2, fun c2 => ⟨h2, fun c3 => ?_, fun c3 => ?_⟩, fun c2 => ?_⟩⟩ <;> simp_all
