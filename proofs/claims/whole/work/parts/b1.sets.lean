/-! what a set of spurs adds up to, of the class -/
def bsum (c : Nat → Int) (t : Nat) : Nat → Int
  | 0 => 0
  | k + 1 => bsum c t k + (if Nat.testBit t k then c k else 0)
def bor (c : Nat → Int) (t : Nat) : Nat → Int
  | 0 => 0
  | k + 1 => i_ior (bor c t k) (if Nat.testBit t k then c k else 0)
theorem bsum_congr {c : Nat → Int} {t t' : Nat} : ∀ k, (∀ j, j < k → Nat.testBit t j = Nat.testBit t' j) → bsum c t k = bsum c t' k := by
  intro k
  induction k with
  | zero => intro _; rfl
  | succ k ih =>
    intro h
    show bsum c t k + (if Nat.testBit t k then c k else 0) = bsum c t' k + (if Nat.testBit t' k then c k else 0)
    rw [ih (fun j hj => h j (by omega)), h k (by omega)]
theorem bor_congr {c : Nat → Int} {t t' : Nat} : ∀ k, (∀ j, j < k → Nat.testBit t j = Nat.testBit t' j) → bor c t k = bor c t' k := by
  intro k
  induction k with
  | zero => intro _; rfl
  | succ k ih =>
    intro h
    show i_ior (bor c t k) (if Nat.testBit t k then c k else 0) = i_ior (bor c t' k) (if Nat.testBit t' k then c k else 0)
    rw [ih (fun j hj => h j (by omega)), h k (by omega)]
theorem bit_hi {t i k : Nat} (h : t < 2 ^ i) (hk : i ≤ k) : Nat.testBit t k = false := Nat.testBit_lt_two_pow (Nat.lt_of_lt_of_le h (Nat.pow_le_pow_right (by decide) hk))
theorem ior0 (a b : Int) : i_ior (i_ior a b) 0 = i_ior a b := by
  unfold i_ior
  rw [iv_of]
  have e : iv 0 = 0 := by decide
  rw [e, Int32.or_zero]
theorem bor_w {c : Nat → Int} {t : Nat} : ∀ k, i_ior (bor c t k) 0 = bor c t k := by
  intro k
  cases k with
  | zero => show i_ior 0 0 = 0; decide
  | succ k => exact ior0 _ _
theorem bsum_hi {c : Nat → Int} {t i : Nat} (h : t < 2 ^ i) : bsum c t (i + 1) = bsum c t i := by
  show bsum c t i + (if Nat.testBit t i then c i else 0) = bsum c t i
  rw [bit_hi h (Nat.le_refl _)]
  simp
theorem bor_hi {c : Nat → Int} {t i : Nat} (h : t < 2 ^ i) : bor c t (i + 1) = bor c t i := by
  show i_ior (bor c t i) (if Nat.testBit t i then c i else 0) = bor c t i
  rw [bit_hi h (Nat.le_refl _)]
  exact bor_w i
theorem bsum_b {c : Nat → Int} {B : Int} {n : Nat} (hB : 0 ≤ B) (h : ∀ i, i < n → 0 ≤ c i ∧ c i ≤ B) {t : Nat} : ∀ k, k ≤ n → 0 ≤ bsum c t k ∧ bsum c t k ≤ B * k := by
  intro k
  induction k with
  | zero => intro _; exact ⟨Int.le_refl _, by show (0 : Int) ≤ B * 0; omega⟩
  | succ k ih =>
    intro hk
    have a := ih (by omega)
    have b := h k (by omega)
    have e : B * ((k + 1 : Nat) : Int) = B * k + B := by
      rw [Int.natCast_add, Int.mul_add]
      omega
    rw [e]
    show 0 ≤ bsum c t k + (if Nat.testBit t k then c k else 0) ∧ bsum c t k + (if Nat.testBit t k then c k else 0) ≤ B * k + B
    split <;> omega
theorem bsum_0 {c : Nat → Int} : ∀ k, bsum c 0 k = 0 := by
  intro k
  induction k with
  | zero => rfl
  | succ k ih =>
    show bsum c 0 k + (if Nat.testBit 0 k then c k else 0) = 0
    rw [ih, Nat.zero_testBit]
    rfl
theorem bor_0 {c : Nat → Int} : ∀ k, bor c 0 k = 0 := by
  intro k
  induction k with
  | zero => rfl
  | succ k ih =>
    show i_ior (bor c 0 k) (if Nat.testBit 0 k then c k else 0) = 0
    rw [ih, Nat.zero_testBit, if_neg (by decide)]
    decide
/-- the class's rows of sets, of the first i spurs -/
def SetX (S : St) (c0 c1 c2 : Nat → Int) (i : Nat) : Prop := ∀ t, t < 2 ^ i → S 43 0 t = bor c0 t i ∧ S 44 0 t = bsum c1 t i ∧ S 45 0 t = bsum c2 t i
def FrS (σ S : St) : Prop := ∀ k, ¬ k = 43 → ¬ k = 44 → ¬ k = 45 → S k = σ k
theorem p2_512 {i : Nat} (h : i ≤ 9) : 1 ≤ 2 ^ i ∧ 2 ^ i ≤ 512 := ⟨Nat.two_pow_pos i, by
  have := Nat.pow_le_pow_right (show 0 < 2 by decide) h
  exact this⟩
theorem p2_s {i : Nat} : 2 ^ (i + 1) = 2 ^ i + 2 ^ i := by rw [Nat.pow_succ]; omega
theorem add_loop {σ : St} {i : Nat} {K : St → Int → Prop} {Q : St → Prop} (hi : i < 9) (q : ∀ S, SetX S (σ 39 0) (σ 40 0) (σ 41 0) (i + 1) → FrS σ S → K S i) :
    ∀ (k x n : Nat) (S : St), x + k = 2 ^ i → k < n → SetX S (σ 39 0) (σ 40 0) (σ 41 0) i → (∀ t, t < x → S 43 0 (t + 2 ^ i) = bor (σ 39 0) (t + 2 ^ i) (i + 1) ∧ S 44 0 (t + 2 ^ i) = bsum (σ 40 0) (t + 2 ^ i) (i + 1) ∧ S 45 0 (t + 2 ^ i) = bsum (σ 41 0) (t + 2 ^ i) (i + 1)) → FrS σ S → wp_X5_addUpSets_16 K Q n S i ((2 ^ i : Nat) : Int) x := by
  have p8 := p2_512 (show i + 1 ≤ 9 by omega)
  have ps := p2_s (i := i)
  intro k
  induction k with
  | zero =>
    intro x n S hk hn h1 h2 hF
    obtain ⟨n, rfl⟩ : ∃ n', n = n' + 1 := ⟨n - 1, by omega⟩
    have e : x = 2 ^ i := by omega
    subst e
    unfold wp_X5_addUpSets_16
    refine ⟨⟨by omega, by omega⟩, ⟨by omega, by omega⟩, fun _ => q S (fun t ht => ?_) hF, fun z => absurd (Int.le_refl _) z⟩
    by_cases c : t < 2 ^ i
    · rw [bor_hi c, bsum_hi c, bsum_hi c]
      exact h1 t c
    · have e : t = (t - 2 ^ i) + 2 ^ i := by omega
      rw [e]
      exact h2 (t - 2 ^ i) (by omega)
  | succ k ih =>
    intro x n S hk hn h1 h2 hF
    obtain ⟨n, rfl⟩ : ∃ n', n = n' + 1 := ⟨n - 1, by omega⟩
    have hx : x < 2 ^ i := by omega
    have bx := bit_hi hx (Nat.le_refl _)
    have ba := bit_add (x := x) (by omega) hi bx
    have lo : ∀ j, j < i → Nat.testBit (x + 2 ^ i) j = Nat.testBit x j := fun j hj => by rw [ba j, if_neg (by omega)]
    have bi : Nat.testBit (x + 2 ^ i) i = true := by rw [ba i, if_pos rfl]
    obtain ⟨a1, a2, a3⟩ := h1 x hx
    have f := fun (k : Nat) (h : k < 43 ∨ 45 < k) => hF k (by omega) (by omega) (by omega)
    unfold wp_X5_addUpSets_16
    rw [Int.toNat_natCast, Int.toNat_natCast, show Int.toNat ((x : Int) + ((2 ^ i : Nat) : Int)) = x + 2 ^ i by omega, show ((x : Int) + 1) = ((x + 1 : Nat) : Int) by omega]
    refine ⟨⟨by omega, by omega⟩, ⟨by omega, by omega⟩, fun z => absurd z (by omega), fun _ => ⟨by omega, by omega, by omega, by omega, by omega, by omega, fun s1 e1 => ⟨by omega, by omega, by omega, by omega, by omega, by omega, fun s2 e2 => ⟨by omega, by omega, by omega, by omega, by omega, by omega, fun s3 e3 => ?_⟩⟩⟩⟩
    have v1 : s3 43 0 = up (S 43 0) (x + 2 ^ i) (bor (σ 39 0) (x + 2 ^ i) (i + 1)) := by
      rw [e3, rs_ne (by decide), e2, rs_ne (by decide), e1, rs_eq, a1, f 39 (by omega)]
      show _ = up (S 43 0) (x + 2 ^ i) (i_ior (bor (σ 39 0) (x + 2 ^ i) i) (if Nat.testBit (x + 2 ^ i) i then σ 39 0 i else 0))
      rw [bi, bor_congr i lo]
      rfl
    have v2 : s3 44 0 = up (S 44 0) (x + 2 ^ i) (bsum (σ 40 0) (x + 2 ^ i) (i + 1)) := by
      rw [e3, rs_ne (by decide), e2, rs_eq, e1, rs_ne (by decide), rs_ne (by decide), a2, f 40 (by omega)]
      show _ = up (S 44 0) (x + 2 ^ i) (bsum (σ 40 0) (x + 2 ^ i) i + (if Nat.testBit (x + 2 ^ i) i then σ 40 0 i else 0))
      rw [bi, bsum_congr i lo]
      rfl
    have v3 : s3 45 0 = up (S 45 0) (x + 2 ^ i) (bsum (σ 41 0) (x + 2 ^ i) (i + 1)) := by
      rw [e3, rs_eq, e2, rs_ne (by decide), rs_ne (by decide), e1, rs_ne (by decide), rs_ne (by decide), a3, f 41 (by omega)]
      show _ = up (S 45 0) (x + 2 ^ i) (bsum (σ 41 0) (x + 2 ^ i) i + (if Nat.testBit (x + 2 ^ i) i then σ 41 0 i else 0))
      rw [bi, bsum_congr i lo]
      rfl
    refine ih (x + 1) n s3 (by omega) (by omega) (fun t ht => ?_) (fun t ht => ?_) (fun k z1 z2 z3 => by rw [e3, rs_ne z3, e2, rs_ne z2, e1, rs_ne z1]; exact hF k z1 z2 z3)
    · rw [v1, v2, v3, up_ne (by omega), up_ne (by omega), up_ne (by omega)]
      exact h1 t ht
    · rw [v1, v2, v3]
      by_cases e : t = x
      · rw [e, up_eq, up_eq, up_eq]
        exact ⟨rfl, rfl, rfl⟩
      · rw [up_ne (by omega), up_ne (by omega), up_ne (by omega)]
        exact h2 t (by omega)
theorem sets_loop {σ : St} {N : Nat} {Q : St → Prop} (hN : N ≤ 9) (e5 : σ 5 0 3 = N) (q : ∀ S, SetX S (σ 39 0) (σ 40 0) (σ 41 0) N → FrS σ S → Q S) :
    ∀ (k i n : Nat) (S : St), i + k = N → k < n → SetX S (σ 39 0) (σ 40 0) (σ 41 0) i → FrS σ S → wp_X5_addUpSets_2 Q n S i := by
  intro k
  induction k with
  | zero =>
    intro i n S hk hn h1 hF
    obtain ⟨n, rfl⟩ : ∃ n', n = n' + 1 := ⟨n - 1, by omega⟩
    have e : i = N := by omega
    subst e
    unfold wp_X5_addUpSets_2
    rw [hF 5 (by decide) (by decide) (by decide), e5]
    exact ⟨⟨by omega, by omega⟩, ⟨by omega, by omega⟩, fun _ => q S h1 hF, fun z => absurd (Int.le_refl _) z⟩
  | succ k ih =>
    intro i n S hk hn h1 hF
    obtain ⟨n, rfl⟩ : ∃ n', n = n' + 1 := ⟨n - 1, by omega⟩
    unfold wp_X5_addUpSets_2
    rw [hF 5 (by decide) (by decide) (by decide), e5]
    refine ⟨⟨by omega, by omega⟩, ⟨by omega, by omega⟩, fun z => absurd z (by omega), fun _ v ev => ⟨2 ^ i + 1, ?_⟩⟩
    rw [ev, shl1 (by omega)]
    refine add_loop (by omega) (fun S' a b => ?_) (2 ^ i) 0 (2 ^ i + 1) S (by omega) (by omega) h1 (fun t ht => absurd ht (by omega)) hF
    unfold wp_X5_addUpSets_90
    rw [show ((i : Int) + 1) = ((i + 1 : Nat) : Int) by omega]
    exact ih (i + 1) n S' (by omega) (by omega) a b
theorem sx_sets {σ : St} {N : Nat} {Q : St → Prop} (hN : N ≤ 9) (e5 : σ 5 0 3 = N) (h0 : σ 43 0 0 = 0 ∧ σ 44 0 0 = 0 ∧ σ 45 0 0 = 0) (q : ∀ S, SetX S (σ 39 0) (σ 40 0) (σ 41 0) N → FrS σ S → Q S) : wp_X5_addUpSets σ Q := by
  refine ⟨N + 1, sets_loop hN e5 q N 0 (N + 1) σ (by omega) (by omega) (fun t ht => ?_) (fun k _ _ _ => rfl)⟩
  have e : t = 0 := by
    have : 2 ^ 0 = 1 := rfl
    omega
  rw [e]
  exact h0
