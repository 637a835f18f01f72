/-! the best behind each set: one spur is settled at a time -/
def frm (c0 c1 : Nat → Int) (ask haul stored : Int) (beh : Nat → Int) (N t : Nat) : Int := if bsum c1 t N ≤ stored then haul * bcn (i_iand ask (i_ixor (bor c0 t N) (-1))) + beh t else 100000000
def lkS (ci : Int) (i : Nat) (A : Nat → Int) (b : Nat) : Int := if Nat.testBit b i then min (A (b - 2 ^ i)) (A b) else min (A b) (A (b + 2 ^ i) + ci)
def lkN (c2 A : Nat → Int) : Nat → Nat → Int
  | 0 => A
  | i + 1 => lkS (c2 i) i (lkN c2 A i)
theorem bit_sub {b i : Nat} (hb : b < 512) (hi : i < 9) (h : Nat.testBit b i = true) : 2 ^ i ≤ b ∧ Nat.testBit (b - 2 ^ i) i = false := by
  have d : ∀ i, i < 9 → ∀ b, b < 512 → Nat.testBit b i = true → 2 ^ i ≤ b ∧ Nat.testBit (b - 2 ^ i) i = false := by decide +kernel
  exact d i hi b hb h
theorem bit_top {x i N : Nat} (hN : N ≤ 9) (hi : i < N) (hx : x < 2 ^ N) (hb : Nat.testBit x i = false) : x + 2 ^ i < 2 ^ N := by
  have p := p2_512 hN
  have d : ∀ i, i < 9 → ∀ x, x < 512 → Nat.testBit x i = false → x + 2 ^ i = x ||| 2 ^ i := by decide +kernel
  rw [d i (by omega) x (by omega) hb]
  exact Nat.or_lt_two_pow hx (Nat.pow_lt_pow_right (by decide) hi)
theorem lkN_b {c2 A : Nat → Int} {N : Nat} (hN : N ≤ 9) (hc : ∀ i, i < N → 0 ≤ c2 i) (hA : ∀ b, b < 2 ^ N → 0 ≤ A b ∧ A b ≤ 100000000) : ∀ i, i ≤ N → ∀ b, b < 2 ^ N → 0 ≤ lkN c2 A i b ∧ lkN c2 A i b ≤ 100000000 := by
  have p := p2_512 hN
  intro i
  induction i with
  | zero => intro _; exact hA
  | succ i ih =>
    intro hi b hb
    have pi := Nat.two_pow_pos i
    have a := ih (by omega) b hb
    show 0 ≤ lkS (c2 i) i (lkN c2 A i) b ∧ lkS (c2 i) i (lkN c2 A i) b ≤ 100000000
    unfold lkS
    cases h : Nat.testBit b i
    · have a2 := ih (by omega) (b + 2 ^ i) (bit_top hN (by omega) hb h)
      have c := hc i (by omega)
      simp only [Bool.false_eq_true, if_false]
      have m1 := Int.min_le_left (lkN c2 A i b) (lkN c2 A i (b + 2 ^ i) + c2 i)
      have m2 : 0 ≤ min (lkN c2 A i b) (lkN c2 A i (b + 2 ^ i) + c2 i) := Int.le_min.2 ⟨a.1, by omega⟩
      omega
    · have a2 := ih (by omega) (b - 2 ^ i) (by omega)
      simp only [if_true]
      have m1 := Int.min_le_right (lkN c2 A i (b - 2 ^ i)) (lkN c2 A i b)
      have m2 : 0 ≤ min (lkN c2 A i (b - 2 ^ i)) (lkN c2 A i b) := Int.le_min.2 ⟨a2.1, a.1⟩
      omega
def agr (i t b : Nat) : Prop := ∀ k, i ≤ k → Nat.testBit t k = Nat.testBit b k
theorem dif_sum {c2 : Nat → Int} {t b b' i : Nat} (hb : b < 512) (hb' : b' < 512) (hi : i ≤ 9) (h : ∀ k, k < i → Nat.testBit b k = Nat.testBit b' k) : bsum c2 (dif t b) i = bsum c2 (dif t b') i := by
  refine bsum_congr i (fun j hj => ?_)
  rw [dif_bit hb (by omega), dif_bit hb' (by omega), h j hj]
theorem lkN_min {c2 A : Nat → Int} {N : Nat} (hN : N ≤ 9) : ∀ i, i ≤ N → ∀ b, b < 2 ^ N → (∃ t, t < 2 ^ N ∧ agr i t b ∧ lkN c2 A i b = A t + bsum c2 (dif t b) i) ∧ ∀ t, t < 2 ^ N → agr i t b → lkN c2 A i b ≤ A t + bsum c2 (dif t b) i := by
  have p := p2_512 hN
  intro i
  induction i with
  | zero =>
    intro _ b hb
    refine ⟨⟨b, hb, fun _ _ => rfl, by show A b = A b + 0; omega⟩, fun t ht ha => ?_⟩
    have e : t = b := Nat.eq_of_testBit_eq (fun k => ha k (Nat.zero_le _))
    rw [e]
    show A b ≤ A b + 0
    omega
  | succ i ih =>
    intro hi b hb
    have pi := Nat.two_pow_pos i
    have ext : ∀ t b' : Nat, bsum c2 (dif t b') (i + 1) = bsum c2 (dif t b') i + (if Nat.testBit (dif t b') i then c2 i else 0) := fun _ _ => rfl
    cases h : Nat.testBit b i
    · have ht := bit_top hN (show i < N by omega) hb h
      have ba := bit_add (x := b) (by omega) (by omega) h
      obtain ⟨⟨t1, g1, g2, g3⟩, g4⟩ := ih (by omega) b hb
      obtain ⟨⟨t2, k1, k2, k3⟩, k4⟩ := ih (by omega) (b + 2 ^ i) ht
      have lo : ∀ t, bsum c2 (dif t (b + 2 ^ i)) i = bsum c2 (dif t b) i := fun t => dif_sum (by omega) (by omega) (by omega) (fun k hk => by rw [ba k, if_neg (by omega)])
      have eL : lkN c2 A (i + 1) b = min (lkN c2 A i b) (lkN c2 A i (b + 2 ^ i) + c2 i) := by
        show lkS (c2 i) i (lkN c2 A i) b = _
        unfold lkS
        rw [h]
        rfl
      have s0 : ∀ t, Nat.testBit t i = false → bsum c2 (dif t b) (i + 1) = bsum c2 (dif t b) i := fun t z => by
        rw [ext, dif_bit (by omega) (by omega), z]
        simp
      have s1 : ∀ t, Nat.testBit t i = true → bsum c2 (dif t b) (i + 1) = bsum c2 (dif t b) i + c2 i := fun t z => by
        rw [ext, dif_bit (by omega) (by omega), z, h]
        simp
      rw [eL]
      refine ⟨?_, fun t ht1 ha => ?_⟩
      · by_cases c : lkN c2 A i b ≤ lkN c2 A i (b + 2 ^ i) + c2 i
        · rw [Int.min_eq_left c]
          have z : Nat.testBit t1 i = false := by rw [g2 i (Nat.le_refl _), h]
          refine ⟨t1, g1, fun k hk => g2 k (by omega), ?_⟩
          rw [s0 t1 z]
          exact g3
        · rw [Int.min_eq_right (by omega)]
          have z : Nat.testBit t2 i = true := by rw [k2 i (Nat.le_refl _), ba i, if_pos rfl]
          refine ⟨t2, k1, fun k hk => ?_, ?_⟩
          · rw [k2 k (by omega), ba k, if_neg (by omega)]
          · rw [s1 t2 z, k3, lo]
            omega
      · cases z : Nat.testBit t i
        · have a := g4 t ht1 (fun k hk => by
            by_cases e : k = i
            · rw [e, z, h]
            · exact ha k (by omega))
          rw [s0 t z]
          have := Int.min_le_left (lkN c2 A i b) (lkN c2 A i (b + 2 ^ i) + c2 i)
          omega
        · have a := k4 t ht1 (fun k hk => by
            rw [ba k]
            by_cases e : k = i
            · rw [if_pos e, e, z]
            · rw [if_neg e]
              exact ha k (by omega))
          rw [s1 t z]
          rw [lo] at a
          have := Int.min_le_right (lkN c2 A i b) (lkN c2 A i (b + 2 ^ i) + c2 i)
          omega
    · obtain ⟨q1, q2⟩ := bit_sub (by omega) (by omega) h
      obtain ⟨b0, eb⟩ : ∃ b0, b0 = b - 2 ^ i := ⟨_, rfl⟩
      rw [← eb] at q2
      have bb : b = b0 + 2 ^ i := by omega
      have ba := bit_add (x := b0) (by omega) (show i < 9 by omega) q2
      rw [← bb] at ba
      obtain ⟨⟨t1, g1, g2, g3⟩, g4⟩ := ih (by omega) b0 (by omega)
      obtain ⟨⟨t2, k1, k2, k3⟩, k4⟩ := ih (by omega) b hb
      have lo : ∀ t, bsum c2 (dif t b0) i = bsum c2 (dif t b) i := fun t => dif_sum (by omega) (by omega) (by omega) (fun k hk => by rw [ba k, if_neg (by omega)])
      have eL : lkN c2 A (i + 1) b = min (lkN c2 A i b0) (lkN c2 A i b) := by
        show lkS (c2 i) i (lkN c2 A i) b = _
        unfold lkS
        rw [h, eb]
        rfl
      have s0 : ∀ t, bsum c2 (dif t b) (i + 1) = bsum c2 (dif t b) i := fun t => by
        rw [ext, dif_bit (by omega) (by omega), h]
        simp
      rw [eL]
      refine ⟨?_, fun t ht1 ha => ?_⟩
      · by_cases c : lkN c2 A i b0 ≤ lkN c2 A i b
        · rw [Int.min_eq_left c]
          refine ⟨t1, g1, fun k hk => ?_, ?_⟩
          · rw [g2 k (by omega), ba k, if_neg (by omega)]
          · rw [s0, g3, lo]
        · rw [Int.min_eq_right (by omega)]
          refine ⟨t2, k1, fun k hk => k2 k (by omega), ?_⟩
          rw [s0]
          exact k3
      · rw [s0]
        cases z : Nat.testBit t i
        · have a := g4 t ht1 (fun k hk => by
            by_cases e : k = i
            · rw [e, z, q2]
            · rw [ha k (by omega), ba k, if_neg e])
          rw [lo] at a
          have := Int.min_le_left (lkN c2 A i b0) (lkN c2 A i b)
          omega
        · have a := k4 t ht1 (fun k hk => by
            by_cases e : k = i
            · rw [e, z, h]
            · exact ha k (by omega))
          have := Int.min_le_right (lkN c2 A i b0) (lkN c2 A i b)
          omega
/-- the least of G over all sets -/
def MinV (N : Nat) (G : Nat → Int) (v : Int) : Prop := (∃ t, t < 2 ^ N ∧ G t = v) ∧ ∀ t, t < 2 ^ N → v ≤ G t
theorem MinV_uni {N : Nat} {G : Nat → Int} {v w : Int} (h : MinV N G v) (h' : MinV N G w) : w = v := by
  obtain ⟨⟨t, t1, t2⟩, t3⟩ := h
  obtain ⟨⟨u, u1, u2⟩, u3⟩ := h'
  have a := t3 u u1
  have b := u3 t t1
  omega
theorem lkN_MinV {c2 A : Nat → Int} {N b : Nat} (hN : N ≤ 9) (hb : b < 2 ^ N) : MinV N (fun t => A t + bsum c2 (dif t b) N) (lkN c2 A N b) := by
  obtain ⟨⟨t, t1, t2, t3⟩, t4⟩ := lkN_min (c2 := c2) (A := A) hN N (Nat.le_refl _) b hb
  refine ⟨⟨t, t1, t3.symm⟩, fun u hu => t4 u hu (fun k hk => ?_)⟩
  rw [bit_hi hu hk, bit_hi hb hk]
/-! the class's loop over pairs of sets -/
def clr (i b : Nat) : Nat := if Nat.testBit b i then b - 2 ^ i else b
theorem look_loop {σ : St} {N i : Nat} {A : Nat → Int} {K : St → Int → Int → Prop} {Q : St → Prop} (hN : N ≤ 9) (hi : i < N) (hc : 0 ≤ σ 41 0 i ∧ σ 41 0 i ≤ 999) (hA : ∀ b, b < 2 ^ N → 0 ≤ A b ∧ A b ≤ 100000000) (q : ∀ g, (∀ b, b < 2 ^ N → g b = lkS (σ 41 0 i) i A b) → K (sta σ 48 0 g) ((2 ^ N : Nat) : Int) i) :
    ∀ (k x n : Nat) (g : Nat → Int), x + k = 2 ^ N → k < n → (∀ b, b < 2 ^ N → g b = if clr i b < x then lkS (σ 41 0 i) i A b else A b) → wp_X5_lookAhead_41 K Q n (sta σ 48 0 g) ((2 ^ N : Nat) : Int) i ((2 ^ i : Nat) : Int) x := by
  have p := p2_512 hN
  have pi := Nat.two_pow_pos i
  have clt : ∀ b, b < 2 ^ N → clr i b < 2 ^ N := fun b hb => by
    unfold clr
    split <;> omega
  intro k
  induction k with
  | zero =>
    intro x n g hk hn h
    obtain ⟨n, rfl⟩ : ∃ n', n = n' + 1 := ⟨n - 1, by omega⟩
    have e : x = 2 ^ N := by omega
    subst e
    unfold wp_X5_lookAhead_41
    refine ⟨⟨by omega, by omega⟩, ⟨by omega, by omega⟩, fun _ => q g (fun b hb => ?_), fun z => absurd (Int.le_refl _) z⟩
    rw [h b hb, if_pos (clt b hb)]
  | succ k ih =>
    intro x n g hk hn h
    obtain ⟨n, rfl⟩ : ∃ n', n = n' + 1 := ⟨n - 1, by omega⟩
    have hx : x < 2 ^ N := by omega
    obtain ⟨bt, bin⟩ := bit_and (x := x) (i := i) (by omega) (by omega)
    unfold wp_X5_lookAhead_41 wp_X5_lookAhead_114
    rw [show ((x : Int) + 1) = ((x + 1 : Nat) : Int) by omega, Int.toNat_natCast, Int.toNat_natCast]
    refine ⟨⟨by omega, by omega⟩, ⟨by omega, by omega⟩, fun z => absurd z (by omega), fun _ => ⟨bin, fun z => ?_, fun z => ?_⟩⟩
    · have tb : Nat.testBit x i = true := by
        cases w : Nat.testBit x i
        · exact absurd (bt.2 w) z
        · rfl
      refine ih (x + 1) n g (by omega) (by omega) (fun b hb => ?_)
      rw [h b hb]
      have ne : ¬ clr i b = x := fun e => by
        have cb : Nat.testBit (clr i b) i = false := by
          unfold clr
          cases w : Nat.testBit b i
          · simp only [Bool.false_eq_true, if_false]
            exact w
          · simp only [if_true]
            exact (bit_sub (by omega) (by omega) w).2
        rw [e, tb] at cb
        exact absurd cb (by decide)
      by_cases c : clr i b < x
      · rw [if_pos c, if_pos (by omega)]
      · rw [if_neg c, if_neg (by omega)]
    · have tb := bt.1 z
      have ht := bit_top hN hi hx tb
      have ba := bit_add (x := x) (by omega) (by omega) tb
      have bi : Nat.testBit (x + 2 ^ i) i = true := by rw [ba i, if_pos rfl]
      rw [bit_or (by omega) (by omega) tb, Int.toNat_natCast]
      have cx : clr i x = x := by unfold clr; rw [tb]; rfl
      have cx2 : clr i (x + 2 ^ i) = x := by
        unfold clr
        rw [bi]
        show x + 2 ^ i - 2 ^ i = x
        omega
      have p1 := Nat.two_pow_pos i
      have gx : g x = A x := by rw [h x hx, cx, if_neg (by omega)]
      have gy : g (x + 2 ^ i) = A (x + 2 ^ i) := by rw [h _ ht, cx2, if_neg (by omega)]
      have r48 : ∀ f : Nat → Int, sta σ 48 0 f 48 0 = f := fun f => ra_eq
      have a1 := hA x hx
      have a2 := hA _ ht
      rw [r48, gx, gy, ra_ne (show ¬ 41 = 48 by decide)]
      refine ⟨by omega, by omega, fun v6 e6 => ⟨by omega, by omega, fun v9 e9 => ⟨by omega, by omega, ?_⟩⟩⟩
      subst e6 e9
      refine j_min ⟨by omega, by omega⟩ ⟨by omega, by omega⟩ ⟨by omega, by omega, fun s16 e16 => ?_⟩
      rw [st_stae] at e16
      subst e16
      refine j_min ⟨by omega, by omega⟩ ⟨by omega, by omega⟩ ⟨by omega, by omega, fun s21 e21 => ?_⟩
      rw [st_stae] at e21
      subst e21
      refine ih (x + 1) n _ (by omega) (by omega) (fun b hb => ?_)
      by_cases e1 : b = x + 2 ^ i
      · rw [e1, up_eq, cx2, if_pos (by omega)]
        unfold lkS
        rw [bi, show x + 2 ^ i - 2 ^ i = x by omega]
        rfl
      · rw [up_ne e1]
        by_cases e2 : b = x
        · rw [e2, up_eq, cx, if_pos (by omega)]
          unfold lkS
          rw [tb]
          rfl
        · rw [up_ne e2, h b hb]
          have ne : ¬ clr i b = x := fun e => by
            unfold clr at e
            cases w : Nat.testBit b i
            · rw [w] at e
              exact e2 e
            · rw [w] at e
              have s := (bit_sub (by omega) (by omega) w).1
              have e' : b - 2 ^ i = x := e
              omega
          by_cases c : clr i b < x
          · rw [if_pos c, if_pos (by omega)]
          · rw [if_neg c, if_neg (by omega)]
theorem lookA_loop {σ : St} {N : Nat} {A : Nat → Int} {Q : St → Prop} (hN : N ≤ 9) (e5 : σ 5 0 3 = N) (hc : ∀ i, i < N → 0 ≤ σ 41 0 i ∧ σ 41 0 i ≤ 999) (hA : ∀ b, b < 2 ^ N → 0 ≤ A b ∧ A b ≤ 100000000) (q : ∀ g, (∀ b, b < 2 ^ N → g b = lkN (σ 41 0) A N b) → Q (sta σ 48 0 g)) :
    ∀ (k i n : Nat) (g : Nat → Int), i + k = N → k < n → (∀ b, b < 2 ^ N → g b = lkN (σ 41 0) A i b) → wp_X5_lookAhead_25 Q n (sta σ 48 0 g) ((2 ^ N : Nat) : Int) i := by
  have p := p2_512 hN
  intro k
  induction k with
  | zero =>
    intro i n g hk hn h
    obtain ⟨n, rfl⟩ : ∃ n', n = n' + 1 := ⟨n - 1, by omega⟩
    have e : i = N := by omega
    subst e
    unfold wp_X5_lookAhead_25
    rw [ra_ne (show ¬ 5 = 48 by decide), e5]
    exact ⟨⟨by omega, by omega⟩, ⟨by omega, by omega⟩, fun _ => q g h, fun z => absurd (Int.le_refl _) z⟩
  | succ k ih =>
    intro i n g hk hn h
    obtain ⟨n, rfl⟩ : ∃ n', n = n' + 1 := ⟨n - 1, by omega⟩
    unfold wp_X5_lookAhead_25
    rw [ra_ne (show ¬ 5 = 48 by decide), e5]
    refine ⟨⟨by omega, by omega⟩, ⟨by omega, by omega⟩, fun z => absurd z (by omega), fun _ v ev => ⟨2 ^ N + 1, ?_⟩⟩
    rw [ev, shl1 (by omega)]
    refine look_loop (A := lkN (σ 41 0) A i) hN (by omega) (hc i (by omega)) (lkN_b hN (fun j hj => (hc j hj).1) hA i (by omega)) (fun g' hg' => ?_) (2 ^ N) 0 (2 ^ N + 1) g (by omega) (by omega) (fun b hb => by rw [if_neg (by omega)]; exact h b hb)
    unfold wp_X5_lookAhead_120
    rw [show ((i : Int) + 1) = ((i + 1 : Nat) : Int) by omega]
    exact ih (i + 1) n g' (by omega) (by omega) hg'
theorem sx_look {σ : St} {N s : Nat} {A : Nat → Int} {Q : St → Prop} (hN : N ≤ 9) (hs : s < 4) (e5 : σ 5 0 3 = N) (hc : ∀ i, i < N → 0 ≤ σ 41 0 i ∧ σ 41 0 i ≤ 999) (h47 : ∀ b, b < 2 ^ N → σ 47 s b = A b) (hA : ∀ b, b < 2 ^ N → 0 ≤ A b ∧ A b ≤ 100000000) (q : ∀ g, (∀ b, b < 2 ^ N → g b = lkN (σ 41 0) A N b) → Q (sta σ 48 0 g)) : wp_X5_lookAhead σ s Q := by
  have p := p2_512 hN
  unfold wp_X5_lookAhead
  rw [e5, shl1 hN, Int.toNat_natCast]
  intro v ev
  subst ev
  refine ⟨by omega, by omega, hs, by omega, by omega, by omega, fun s35 e35 => ⟨N + 1, ?_⟩⟩
  rw [e35]
  refine lookA_loop hN e5 hc hA q N 0 (N + 1) _ (by omega) (by omega) (fun b hb => ?_)
  unfold cpf
  rw [Int.toNat_natCast, if_pos hb]
  exact h47 b hb
