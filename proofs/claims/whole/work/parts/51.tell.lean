/-! the latest telling ahead of a day -/
def lat (f : Nat → Int) (d : Int) : Nat → Int
  | 0 => -1
  | n + 1 => if f n ≤ d ∧ (lat f d n = -1 ∨ f (lat f d n).toNat ≤ f n) then (n : Int) else lat f d n
theorem lat_b (f : Nat → Int) (d : Int) (n : Nat) : -1 ≤ lat f d n ∧ lat f d n < n := by
  induction n with
  | zero => exact ⟨Int.le_refl _, (by decide : (-1 : Int) < 0)⟩
  | succ n ih =>
    unfold lat
    split <;> omega
theorem tell_loop {σ : St} {x1 : Int} {Q : Int → St → Prop} (hm2 : σ 7 0 2 ≤ 200) (hd : ∀ i, inR (σ 64 0 i)) (hx : inR x1) (q : Q (lat (σ 64 0) x1 (σ 7 0 2).toNat) σ) : ∀ (k i n : Nat), k < n → (i : Int) + k = σ 7 0 2 → wp_X7_tellingFor_4 Q n σ x1 (lat (σ 64 0) x1 i) i := by
  intro k
  induction k with
  | zero =>
    intro i n hn hi
    obtain ⟨n, rfl⟩ : ∃ n', n = n' + 1 := ⟨n - 1, by omega⟩
    unfold wp_X7_tellingFor_4
    refine ⟨⟨by omega, by omega⟩, ⟨by omega, by omega⟩, fun _ => ?_, fun h => absurd (by omega) h⟩
    rw [show (σ 7 0 2).toNat = i by omega] at q
    exact q
  | succ k ih =>
    intro i n hn hi
    obtain ⟨n, rfl⟩ : ∃ n', n = n' + 1 := ⟨n - 1, by omega⟩
    have hb := lat_b (σ 64 0) x1 i
    have nx := ih (i + 1) n (by omega) (by omega)
    unfold wp_X7_tellingFor_4
    unfold wp_X7_tellingFor_42 wp_X7_tellingFor_44
    refine ⟨⟨by omega, by omega⟩, ⟨by omega, by omega⟩, fun h => absurd h (by omega), fun _ => ⟨by omega, by omega, hd _, hx, fun h => ?_, fun h => ⟨⟨by omega, by omega⟩, fun h2 => ?_, fun h2 => ⟨by omega, by omega, by omega, by omega, hd _, hd _, fun h3 => ?_, fun h3 => ?_⟩⟩⟩⟩
    all_goals
      rw [show ((i : Int) + 1) = ((i + 1 : Nat) : Int) by omega]
      have e : (Int.toNat (i : Int)) = i := by omega
      rw [e] at h
    · rw [show lat (σ 64 0) x1 (i + 1) = lat (σ 64 0) x1 i by
        show (if _ then _ else _) = _
        rw [if_neg (by omega)]] at nx
      exact nx
    · rw [show lat (σ 64 0) x1 (i + 1) = (i : Int) by
        show (if _ then _ else _) = _
        rw [if_pos ⟨by omega, Or.inl h2⟩]] at nx
      exact nx
    · rw [e] at h3
      rw [show lat (σ 64 0) x1 (i + 1) = lat (σ 64 0) x1 i by
        show (if _ then _ else _) = _
        rw [if_neg (by omega)]] at nx
      exact nx
    · rw [e] at h3
      rw [show lat (σ 64 0) x1 (i + 1) = (i : Int) by
        show (if _ then _ else _) = _
        rw [if_pos ⟨by omega, Or.inr (by omega)⟩]] at nx
      exact nx
theorem sx_tellingFor {σ : St} {x1 : Int} {Q : Int → St → Prop} (hm : 0 ≤ σ 7 0 2) (hm2 : σ 7 0 2 ≤ 200) (hd : ∀ i, inR (σ 64 0 i)) (hx : inR x1) (q : Q (lat (σ 64 0) x1 (σ 7 0 2).toNat) σ) : wp_X7_tellingFor σ x1 Q := by
  unfold wp_X7_tellingFor
  exact ⟨201, tell_loop hm2 hd hx q (σ 7 0 2).toNat 0 201 (by omega) (by omega)⟩
