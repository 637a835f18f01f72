/-! hand: the reference's sums -/
abbrev Hn : Type := Int × Int × Int × Int
def hnS (d : Int) (r : Hn) : Hn := (r.1 + 1, r.2.1 + d, if r.1 = 0 then d else if r.2.2.1 ≤ d then r.2.2.1 else d, if r.1 = 0 then d else if d ≤ r.2.2.2 then r.2.2.2 else d)
def hnv (x : Int) (so D : Nat → Int) : Nat → Hn
  | 0 => (0, 0, 0, 0)
  | i + 1 => if so i = x then hnS (D i) (hnv x so D i) else hnv x so D i
theorem hnv_b {x : Int} {so D : Nat → Int} {w : Nat} (hD : ∀ i, i < w → -100000 ≤ D i ∧ D i ≤ 100000) : ∀ i, i ≤ w → (0 ≤ (hnv x so D i).1 ∧ (hnv x so D i).1 ≤ i) ∧ (-100000 ≤ (hnv x so D i).2.2.1 ∧ (hnv x so D i).2.2.1 ≤ 100000) ∧ (-100000 ≤ (hnv x so D i).2.2.2 ∧ (hnv x so D i).2.2.2 ≤ 100000) ∧ (-100000 * (i : Int) ≤ (hnv x so D i).2.1 ∧ (hnv x so D i).2.1 ≤ 100000 * i) := by
  intro i
  induction i with
  | zero =>
    intro _
    have e : hnv x so D 0 = (0, 0, 0, 0) := rfl
    rw [e]
    exact ⟨⟨by decide, by decide⟩, ⟨by decide, by decide⟩, ⟨by decide, by decide⟩, ⟨by decide, by decide⟩⟩
  | succ i ih =>
    intro hi
    have b := ih (by omega)
    have d := hD i (by omega)
    have e : hnv x so D (i + 1) = if so i = x then hnS (D i) (hnv x so D i) else hnv x so D i := rfl
    rw [e]
    obtain ⟨r, er⟩ : ∃ r, r = hnv x so D i := ⟨_, rfl⟩
    rw [← er] at b ⊢
    obtain ⟨c, s, mn, mx⟩ := r
    dsimp only at b
    split
    · unfold hnS
      dsimp only
      refine ⟨by omega, ?_, ?_, by omega⟩
      · split
        · omega
        · split <;> omega
      · split
        · omega
        · split <;> omega
    · dsimp only
      omega
theorem hn_loop {σ : St} {x1 x2 : Int} {D : Nat → Int} {K : St → Int → Int → Int → Int → Int → Prop} {Q : Int → St → Prop} (hx : inR x1) (hn : 0 ≤ σ 12 0 67 ∧ σ 12 0 67 ≤ 60) (hs : ∀ i : Nat, (i : Int) < σ 12 0 67 → inR (σ 130 0 i)) (hD : ∀ i, i < (σ 12 0 67).toNat → -100000 ≤ D i ∧ D i ≤ 100000) (sc : ∀ (i : Nat) (Q : Int → St → Prop), (i : Int) < σ 12 0 67 → Q (σ 132 0 i - D i) σ → wp_X12_scaleOf σ (σ 131 0 i) (σ 12 0 66) Q)
    (q : K σ x2 (hnv x1 (σ 130 0) D (σ 12 0 67).toNat).1 (hnv x1 (σ 130 0) D (σ 12 0 67).toNat).2.1 (hnv x1 (σ 130 0) D (σ 12 0 67).toNat).2.2.1 (hnv x1 (σ 130 0) D (σ 12 0 67).toNat).2.2.2) :
    ∀ (k i n : Nat), i + k = (σ 12 0 67).toNat → k < n → wp_X12_hand_14 K Q n σ x1 x2 (hnv x1 (σ 130 0) D i).1 (hnv x1 (σ 130 0) D i).2.1 (hnv x1 (σ 130 0) D i).2.2.1 (hnv x1 (σ 130 0) D i).2.2.2 i := by
  intro k
  induction k with
  | zero =>
    intro i n hk hm
    obtain ⟨n, rfl⟩ : ∃ n', n = n' + 1 := ⟨n - 1, by omega⟩
    have e : i = (σ 12 0 67).toNat := by omega
    unfold wp_X12_hand_14
    refine ⟨⟨by omega, by omega⟩, ⟨by omega, by omega⟩, fun _ => ?_, fun z => absurd (by omega) z⟩
    rw [e]
    exact q
  | succ k ih =>
    intro i n hk hm
    obtain ⟨n, rfl⟩ : ∃ n', n = n' + 1 := ⟨n - 1, by omega⟩
    have hi : (i : Int) < σ 12 0 67 := by omega
    have nx := ih (i + 1) n (by omega) (by omega)
    have b := hnv_b (x := x1) (so := σ 130 0) hD i (by omega)
    have d := hD i (by omega)
    have e : hnv x1 (σ 130 0) D (i + 1) = if σ 130 0 i = x1 then hnS (D i) (hnv x1 (σ 130 0) D i) else hnv x1 (σ 130 0) D i := rfl
    rw [e] at nx
    obtain ⟨r, er⟩ : ∃ r, r = hnv x1 (σ 130 0) D i := ⟨_, rfl⟩
    rw [← er] at b nx ⊢
    obtain ⟨c, s, mn, mx⟩ := r
    dsimp only at b ⊢
    unfold wp_X12_hand_14
    rw [Int.toNat_natCast]
    refine ⟨⟨by omega, by omega⟩, ⟨by omega, by omega⟩, fun z => absurd z (by omega), fun _ => ⟨by omega, by omega, hs i hi, hx, fun y => ⟨by omega, by omega, by omega, by omega, sc i _ hi (fun v ev => ?_)⟩, fun y => ?_⟩⟩
    · rw [if_pos y] at nx
      unfold hnS at nx
      dsimp only at nx
      have ev2 : v = D i := by omega
      subst ev2
      unfold wp_X12_hand_73 wp_X12_hand_80 wp_X12_hand_93 wp_X12_hand_100 wp_X12_hand_112
      rw [show ((i : Int) + 1) = ((i + 1 : Nat) : Int) by omega]
      have i3 : inR c := ⟨by omega, by omega⟩
      have iv : inR (D i) := ⟨by omega, by omega⟩
      have i5 : inR mn := ⟨by omega, by omega⟩
      have i6 : inR mx := ⟨by omega, by omega⟩
      refine ⟨i3, fun c0 => ⟨i3, fun _ w ew => ?_, fun z => absurd c0 z⟩, fun c0 => ⟨iv, i5, fun c1 => ⟨i3, fun z => absurd z c0, fun _ => ⟨iv, i6, fun c2 w ew => ?_, fun c2 w ew => ?_⟩⟩, fun c1 => ⟨i3, fun z => absurd z c0, fun _ => ⟨iv, i6, fun c2 w ew => ?_, fun c2 w ew => ?_⟩⟩⟩⟩
      · rw [if_pos c0, if_pos c0] at nx
        rw [ew]
        exact nx
      · rw [if_neg c0, if_neg c0, if_pos c1, if_pos c2] at nx
        rw [ew]
        exact nx
      · rw [if_neg c0, if_neg c0, if_pos c1, if_neg c2] at nx
        rw [ew]
        exact nx
      · rw [if_neg c0, if_neg c0, if_neg c1, if_pos c2] at nx
        rw [ew]
        exact nx
      · rw [if_neg c0, if_neg c0, if_neg c1, if_neg c2] at nx
        rw [ew]
        exact nx
    · rw [if_neg y] at nx
      unfold wp_X12_hand_112
      rw [show ((i : Int) + 1) = ((i + 1 : Nat) : Int) by omega]
      exact nx
