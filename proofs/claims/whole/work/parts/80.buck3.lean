/-! the pieces of the greatest worth: the reference, buck and piece -/
theorem mx_loop {σ : St} {s k : Int} {all a : Nat} {F : Nat → Int} {K : St → Int → Int → Int → Int → Prop} {Q : Int → St → Prop} (hs : 0 ≤ s ∧ s ≤ 3) (hk : 0 ≤ k ∧ k ≤ 3) (ht : ∀ i, i < 4 → 1 ≤ σ 87 0 i ∧ σ 87 0 i ≤ 3) (hp : ∀ i, 0 ≤ σ 92 0 i ∧ σ 92 0 i ≤ 99) (hall : all ≤ 10) (ha : a ≤ all) (hF : ∀ i, a < i → i ≤ all → 0 ≤ F i ∧ F i ≤ 100000)
    (q : ∀ v : Int, (∀ u', 2 ≤ u' → u' ≤ 6 → a + u' ≤ all → gn (σ 92 0) (fun e => wdv (σ 87 0) s k e) F a u' ≤ v) → (a + 2 ≤ all → ∃ w : Nat, 2 ≤ w ∧ w ≤ 6 ∧ a + w ≤ all ∧ gn (σ 92 0) (fun e => wdv (σ 87 0) s k e) F a w = v) → (all < a + 2 → v = 0) → K (sta σ 94 0 (up F a v)) s k all a) :
    ∀ (c u n : Nat) (v : Int), u + c = 7 → 2 ≤ u → c < n → -1 ≤ v → v ≤ 200000 → (∀ u', 2 ≤ u' → u' < u → a + u' ≤ all → gn (σ 92 0) (fun e => wdv (σ 87 0) s k e) F a u' ≤ v) → ((u = 2 ∧ (all < a + 2 → v = 0)) ∨ ∃ w : Nat, 2 ≤ w ∧ w ≤ 6 ∧ a + w ≤ all ∧ gn (σ 92 0) (fun e => wdv (σ 87 0) s k e) F a w = v) → (u = 2 → a + 2 ≤ all → v = -1) → wp_X12_bucks_36 K Q n (sta σ 94 0 (up F a v)) s k all a u := by
  have h0 : ∀ w, 2 ≤ w → w ≤ 6 → a + w ≤ all → 0 ≤ gn (σ 92 0) (fun e => wdv (σ 87 0) s k e) F a w ∧ gn (σ 92 0) (fun e => wdv (σ 87 0) s k e) F a w ≤ 3366 + 100000 := fun w w1 w2 w3 => by
    have t := ht s.toNat (by omega)
    have wb := wdv_b (tp := σ 87 0) (u := ((a + w : Nat) : Int)) hs hk t (by omega)
    exact gn_b hp (by show 1 ≤ wdv _ _ _ _ ∧ wdv _ _ _ _ ≤ 34; omega) (hF _ (by omega) w3)
  have fin : ∀ (u : Nat) (v : Int), 2 ≤ u → (6 < u ∨ all < a + u) → (∀ u', 2 ≤ u' → u' < u → a + u' ≤ all → gn (σ 92 0) (fun e => wdv (σ 87 0) s k e) F a u' ≤ v) → ((u = 2 ∧ (all < a + 2 → v = 0)) ∨ ∃ w : Nat, 2 ≤ w ∧ w ≤ 6 ∧ a + w ≤ all ∧ gn (σ 92 0) (fun e => wdv (σ 87 0) s k e) F a w = v) → K (sta σ 94 0 (up F a v)) s k all a := by
    intro u v h2 he hr ho
    refine q v (fun u' a1 a2 a3 => hr u' a1 (by omega) a3) (fun z => ?_) (fun z => ?_)
    · rcases ho with ⟨o, -⟩ | ⟨w, o⟩
      · omega
      · exact ⟨w, o⟩
    · rcases ho with ⟨-, o⟩ | ⟨w, o1, o2, o3, -⟩
      · exact o z
      · omega
  intro c
  induction c with
  | zero =>
    intro u n v hu h2 hn v1 v2 hr ho hz
    obtain ⟨n, rfl⟩ : ∃ n', n = n' + 1 := ⟨n - 1, by omega⟩
    unfold wp_X12_bucks_36
    exact ⟨⟨by omega, by omega⟩, fun _ => fin u v h2 (by omega) hr ho, fun z => absurd (by omega) z⟩
  | succ c ih =>
    intro u n v hu h2 hn v1 v2 hr ho hz
    obtain ⟨n, rfl⟩ : ∃ n', n = n' + 1 := ⟨n - 1, by omega⟩
    have r87 : sta σ 94 0 (up F a v) 87 = σ 87 := ra_ne (by decide)
    have r92 : sta σ 94 0 (up F a v) 92 = σ 92 := ra_ne (by decide)
    have r94 : sta σ 94 0 (up F a v) 94 0 = up F a v := ra_eq
    unfold wp_X12_bucks_36 wp_X12_bucks_131 wp_X12_bucks_132
    rw [r94, show Int.toNat ((a : Int) + (u : Int)) = a + u by omega]
    refine ⟨⟨by omega, by omega⟩, fun z => absurd z (by omega), fun _ => ⟨⟨by omega, by omega⟩, ⟨by omega, by omega⟩, fun d => fin u v h2 (by omega) hr ho, fun d => ?_⟩⟩
    have gb := h0 u h2 (by omega) (by omega)
    have fb := hF (a + u) (by omega) (by omega)
    rw [up_ne (show ¬ a + u = a by omega)]
    refine ⟨by omega, by omega, ⟨by omega, by omega⟩, fun _ => ⟨by omega, by omega, ?_⟩, fun z => absurd z (by omega)⟩
    refine sm_wideAt hs hk (by rw [r87]; exact ht) (by omega) ?_
    rw [r87, r92, r94, up_ne (show ¬ a + u = a by omega), Int.toNat_natCast, Int.toNat_natCast, up_eq]
    refine ⟨by omega, by omega, fun v8 e8 => ?_⟩
    have e7 : v8 = gn (σ 92 0) (fun e => wdv (σ 87 0) s k e) F a u := by
      rw [e8, show (a : Int) + (u : Int) = ((a + u : Nat) : Int) by omega]
      rfl
    rw [e7, show ((u : Int) + 1) = ((u + 1 : Nat) : Int) by omega]
    refine ⟨by omega, by omega, ⟨by omega, by omega⟩, ⟨by omega, by omega⟩, fun z => ⟨by omega, by omega, by omega, by omega, fun s1 e1 => ?_⟩, fun z => ⟨by omega, by omega, fun s1 e1 => ?_⟩⟩
    · rw [st_stae, up_up] at e1
      rw [e1]
      refine ih (u + 1) n v (by omega) (by omega) (by omega) v1 v2 (fun u' a1 a2 a3 => ?_) ?_ (fun z => absurd z (by omega))
      · by_cases e : u' = u
        · rw [e]
          exact z
        · exact hr u' a1 (by omega) a3
      · rcases ho with ⟨o, -⟩ | o
        · have := hz o (by omega)
          omega
        · exact Or.inr o
    · rw [st_stae, up_up] at e1
      rw [e1]
      refine ih (u + 1) n _ (by omega) (by omega) (by omega) (by omega) (by omega) (fun u' a1 a2 a3 => ?_) (Or.inr ⟨u, h2, by omega, by omega, rfl⟩) (fun z => absurd z (by omega))
      by_cases e : u' = u
      · rw [e]
        exact Int.le_refl _
      · have := hr u' a1 (by omega) a3
        omega
theorem bm_loop {σ : St} {s k : Int} {all : Nat} {K : St → Int → Int → Int → Prop} {Q : Int → St → Prop} (hs : 0 ≤ s ∧ s ≤ 3) (hk : 0 ≤ k ∧ k ≤ 3) (ht : ∀ i, i < 4 → 1 ≤ σ 87 0 i ∧ σ 87 0 i ≤ 3) (hp : ∀ i, 0 ≤ σ 92 0 i ∧ σ 92 0 i ≤ 99) (hall : (all : Int) = 4 + 2 * k)
    (q : ∀ F, (∀ a, a ≤ all → BAt (σ 92 0) (fun e => wdv (σ 87 0) s k e) all F a) → (∀ i, i ≤ all → 0 ≤ F i ∧ F i ≤ 3366 * ((all : Int) - i)) → K (sta σ 94 0 F) s k all) :
    ∀ (c n : Nat) (F : Nat → Int), c ≤ all + 1 → c < n → (∀ a, c ≤ a → a ≤ all → BAt (σ 92 0) (fun e => wdv (σ 87 0) s k e) all F a) → (∀ i, c ≤ i → i ≤ all → 0 ≤ F i ∧ F i ≤ 3366 * ((all : Int) - i)) → wp_X12_bucks_8 K Q n (sta σ 94 0 F) s k all ((c : Int) - 1) := by
  intro c
  induction c with
  | zero =>
    intro n F hc hn hb hF
    obtain ⟨n, rfl⟩ : ∃ n', n = n' + 1 := ⟨n - 1, by omega⟩
    unfold wp_X12_bucks_8
    exact ⟨⟨by omega, by omega⟩, fun _ => q F (fun a ha => hb a (by omega) ha) (fun i hi => hF i (by omega) hi), fun z => absurd (by omega) z⟩
  | succ c ih =>
    intro n F hc hn hb hF
    obtain ⟨n, rfl⟩ : ∃ n', n = n' + 1 := ⟨n - 1, by omega⟩
    have ne : ∀ v u, 2 ≤ u → gn (σ 92 0) (fun e => wdv (σ 87 0) s k e) (up F c v) c u = gn (σ 92 0) (fun e => wdv (σ 87 0) s k e) F c u := fun v u hu => gn_congr (up_ne (by omega))
    have h0 : ∀ w, 2 ≤ w → w ≤ 6 → c + w ≤ all → 0 ≤ gn (σ 92 0) (fun e => wdv (σ 87 0) s k e) F c w ∧ gn (σ 92 0) (fun e => wdv (σ 87 0) s k e) F c w ≤ 3366 * ((all : Int) - c) := fun w w1 w2 w3 => by
      have t := ht s.toNat (by omega)
      have wb := wdv_b (tp := σ 87 0) (u := ((c + w : Nat) : Int)) hs hk t (by omega)
      have e := gn_b (P := σ 92 0) (W := fun e => wdv (σ 87 0) s k e) (b := F) hp (by show 1 ≤ wdv _ _ _ _ ∧ wdv _ _ _ _ ≤ 34; omega) (hF (c + w) (by omega) w3)
      omega
    have go : ∀ y : Int, (y = -1 ∧ c + 2 ≤ all) ∨ (y = 0 ∧ all < c + 2) → wp_X12_bucks_32 (fun σ x1 x2 x3 x4 => wp_X12_bucks_8 K Q n σ x1 x2 x3 x4) K Q (sta σ 94 0 F) s k all c y c := by
      intro y hy
      unfold wp_X12_bucks_32
      refine ⟨by omega, by omega, fun s1 e1 => ⟨6, ?_⟩⟩
      rw [st_stae, Int.toNat_natCast] at e1
      rw [e1]
      refine mx_loop hs hk ht hp (by omega) (by omega) (fun i i1 i2 => by have := hF i (by omega) i2; omega) (fun v m1 m2 m3 => ?_) 5 2 6 y (by omega) (by omega) (by omega) (by omega) (by omega) (fun u' a1 a2 => absurd a2 (by omega)) (Or.inl ⟨rfl, fun z => by omega⟩) (fun _ z => by omega)
      unfold wp_X12_bucks_138
      rw [show (c : Int) + (-1) = (c : Int) - 1 by omega]
      refine ih n _ (by omega) (by omega) (fun a a1 a2 => ?_) (fun i i1 i2 => ?_)
      · by_cases e : a = c
        · subst e
          refine ⟨fun z => by rw [up_eq]; exact m3 z, fun z => ⟨fun u a1 a2 a3 => by rw [ne v u a1, up_eq]; exact m1 u a1 a2 a3, ?_⟩⟩
          obtain ⟨w, w1, w2, w3, w4⟩ := m2 z
          exact ⟨w, w1, w2, w3, by rw [ne v w w1, up_eq]; exact w4⟩
        · exact BAt_congr (fun i hi => (up_ne (by omega)).symm) (hb a (by omega) a2)
      · by_cases e : i = c
        · rw [e, up_eq]
          by_cases z : all < c + 2
          · have := m3 z
            omega
          · obtain ⟨w, w1, w2, w3, w4⟩ := m2 (by omega)
            have := h0 w w1 w2 w3
            omega
        · rw [up_ne e]
          exact hF i (by omega) i2
    unfold wp_X12_bucks_8
    rw [show (((c + 1 : Nat) : Int) - 1) = (c : Int) by omega]
    exact ⟨⟨by omega, by omega⟩, fun z => absurd z (by omega), fun _ => ⟨⟨by omega, by omega⟩, fun d => go (-1) (Or.inl ⟨rfl, by omega⟩), fun d => go 0 (Or.inr ⟨rfl, by omega⟩)⟩⟩
theorem PAt_ex {P W b : Nat → Int} {all a : Nat} (h : BAt P W all b a) : ∃ g, PAt P W all b a g := by
  by_cases c : all < a + 2
  · exact ⟨0, fun _ => rfl, fun z => absurd z (by omega)⟩
  · obtain ⟨-, u, u1, u2, u3, u4⟩ := h.2 (by omega)
    have : ∀ d u, u = d → 2 ≤ u → u ≤ 6 → a + u ≤ all → gn P W b a u = b a → ∃ g, PAt P W all b a g := by
      intro d
      induction d using Nat.strongRecOn with
      | ind d ih =>
        intro u e u1 u2 u3 u4
        by_cases z : ∃ u', 2 ≤ u' ∧ u' < u ∧ gn P W b a u' = b a
        · obtain ⟨u', z1, z2, z3⟩ := z
          exact ih u' (by omega) u' rfl z1 (by omega) (by omega) z3
        · exact ⟨u, fun y => absurd y c, fun _ => ⟨u, rfl, u1, u2, u3, u4, fun u' y1 y2 y3 => z ⟨u', y1, y2, y3⟩⟩⟩
    exact this u u rfl u1 u2 u3 u4
theorem srch_loop {S : St} {s k : Int} {all a w : Nat} {K : St → Int → Int → Int → Int → Int → Prop} {Q : Int → St → Prop} (hs : 0 ≤ s ∧ s ≤ 3) (hk : 0 ≤ k ∧ k ≤ 3) (ht : ∀ i, i < 4 → 1 ≤ S 87 0 i ∧ S 87 0 i ≤ 3) (hp : ∀ i, 0 ≤ S 92 0 i ∧ S 92 0 i ≤ 99) (hall : all ≤ 10) (hF : ∀ i, i ≤ all → 0 ≤ S 94 0 i ∧ S 94 0 i ≤ 100000) (w1 : 2 ≤ w) (w2 : w ≤ 6) (w3 : a + w ≤ all) (w4 : gn (S 92 0) (fun e => wdv (S 87 0) s k e) (S 94 0) a w = S 94 0 a) (w5 : ∀ u', 2 ≤ u' → u' < w → ¬ gn (S 92 0) (fun e => wdv (S 87 0) s k e) (S 94 0) a u' = S 94 0 a) (q : K S s k all a w) :
    ∀ (c u n : Nat), u + c = w → 2 ≤ u → c < n → wp_X12_bucks_163 K Q n S s k all a u := by
  have h0 : ∀ u, 2 ≤ u → u ≤ 6 → a + u ≤ all → 0 ≤ gn (S 92 0) (fun e => wdv (S 87 0) s k e) (S 94 0) a u ∧ gn (S 92 0) (fun e => wdv (S 87 0) s k e) (S 94 0) a u ≤ 3366 + 100000 := fun u y1 y2 y3 => by
    have t := ht s.toNat (by omega)
    have wb := wdv_b (tp := S 87 0) (u := ((a + u : Nat) : Int)) hs hk t (by omega)
    exact gn_b hp (by show 1 ≤ wdv _ _ _ _ ∧ wdv _ _ _ _ ≤ 34; omega) (hF _ y3)
  intro c
  induction c with
  | zero =>
    intro u n hu h2 hn
    obtain ⟨n, rfl⟩ : ∃ n', n = n' + 1 := ⟨n - 1, by omega⟩
    have eu : u = w := by omega
    subst eu
    have fb := hF (a + u) w3
    have fa := hF a (by omega)
    have gb := h0 u w1 w2 w3
    unfold wp_X12_bucks_163
    rw [show Int.toNat ((a : Int) + (u : Int)) = a + u by omega, Int.toNat_natCast]
    refine ⟨by omega, by omega, ⟨by omega, by omega⟩, fun z => absurd z (by omega), fun _ => ⟨by omega, by omega, sm_wideAt hs hk ht (by omega) ?_⟩⟩
    rw [Int.toNat_natCast, show (a : Int) + (u : Int) = ((a + u : Nat) : Int) by omega]
    have e7 : S 92 0 u * wdv (S 87 0) s k ((a + u : Nat) : Int) + S 94 0 (a + u) = gn (S 92 0) (fun e => wdv (S 87 0) s k e) (S 94 0) a u := rfl
    rw [e7]
    exact ⟨by omega, by omega, by omega, by omega, ⟨by omega, by omega⟩, ⟨by omega, by omega⟩, fun _ => q, fun z => absurd w4 z⟩
  | succ c ih =>
    intro u n hu h2 hn
    obtain ⟨n, rfl⟩ : ∃ n', n = n' + 1 := ⟨n - 1, by omega⟩
    have fb := hF (a + u) (by omega)
    have fa := hF a (by omega)
    have gb := h0 u h2 (by omega) (by omega)
    unfold wp_X12_bucks_163 wp_X12_bucks_217
    rw [show Int.toNat ((a : Int) + (u : Int)) = a + u by omega, Int.toNat_natCast]
    refine ⟨by omega, by omega, ⟨by omega, by omega⟩, fun z => absurd z (by omega), fun _ => ⟨by omega, by omega, sm_wideAt hs hk ht (by omega) ?_⟩⟩
    rw [Int.toNat_natCast, show (a : Int) + (u : Int) = ((a + u : Nat) : Int) by omega, show ((u : Int) + 1) = ((u + 1 : Nat) : Int) by omega]
    have e7 : S 92 0 u * wdv (S 87 0) s k ((a + u : Nat) : Int) + S 94 0 (a + u) = gn (S 92 0) (fun e => wdv (S 87 0) s k e) (S 94 0) a u := rfl
    rw [e7]
    exact ⟨by omega, by omega, by omega, by omega, ⟨by omega, by omega⟩, ⟨by omega, by omega⟩, fun z => absurd z (w5 u h2 (by omega)), fun _ => ih (u + 1) n (by omega) (by omega) (by omega)⟩
theorem pm_loop {S : St} {s k : Int} {all : Nat} {pk : Nat → Int} {K : St → Prop} {Q : Int → St → Prop} (hs : 0 ≤ s ∧ s ≤ 3) (hk : 0 ≤ k ∧ k ≤ 3) (ht : ∀ i, i < 4 → 1 ≤ S 87 0 i ∧ S 87 0 i ≤ 3) (hp : ∀ i, 0 ≤ S 92 0 i ∧ S 92 0 i ≤ 99) (hall : all ≤ 10) (hF : ∀ i, i ≤ all → 0 ≤ S 94 0 i ∧ S 94 0 i ≤ 100000) (h : ∀ a, a ≤ all → PAt (S 92 0) (fun e => wdv (S 87 0) s k e) all (S 94 0) a (pk a)) (q : ∀ f m, Pcs all pk f m → K (st (sta S 93 0 f) 12 0 15 m)) :
    ∀ (c i n : Nat) (f : Nat → Int), i + c = 5 → c < n → (∀ j, j < i → walk pk j + 2 ≤ all ∧ f j = pk (walk pk j)) → wp_X12_bucks_152 K Q n (st (sta S 93 0 f) 12 0 15 i) s k all (walk pk i : Nat) := by
  intro c
  induction c with
  | zero =>
    intro i n f hi hn hf
    obtain ⟨n, rfl⟩ : ∃ n', n = n' + 1 := ⟨n - 1, by omega⟩
    have wb := walk_b h i (fun j hj => (hf j hj).1)
    unfold wp_X12_bucks_152
    exact ⟨⟨by omega, by omega⟩, fun _ => q f i ⟨by omega, hf, by omega⟩, fun z => absurd (by omega) z⟩
  | succ c ih =>
    intro i n f hi hn hf
    obtain ⟨n, rfl⟩ : ∃ n', n = n' + 1 := ⟨n - 1, by omega⟩
    have wb := walk_b h i (fun j hj => (hf j hj).1)
    have pa := h (walk pk i) wb.2
    have r87 : st (sta S 93 0 f) 12 0 15 (i : Int) 87 = S 87 := by rw [rs_ne (by decide), ra_ne (by decide)]
    have r92 : st (sta S 93 0 f) 12 0 15 (i : Int) 92 = S 92 := by rw [rs_ne (by decide), ra_ne (by decide)]
    have r94 : st (sta S 93 0 f) 12 0 15 (i : Int) 94 = S 94 := by rw [rs_ne (by decide), ra_ne (by decide)]
    have r15 : st (sta S 93 0 f) 12 0 15 (i : Int) 12 0 15 = (i : Int) := by rw [rs_eq, up_eq]
    unfold wp_X12_bucks_152
    refine ⟨⟨by omega, by omega⟩, fun z => q f i ⟨by omega, hf, by omega⟩, fun z => ?_⟩
    obtain ⟨w, e, w1, w2, w3, w4, w5⟩ := pa.2 (by omega)
    refine ⟨7, srch_loop (w := w) hs hk (by rw [r87]; exact ht) (by rw [r92]; exact hp) hall (by rw [r94]; exact hF) w1 w2 w3 (by rw [r87, r92, r94]; exact w4) (by rw [r87, r92, r94]; exact w5) ?_ (w - 2) 2 7 (by omega) (by omega) (by omega)⟩
    unfold wp_X12_bucks_223
    rw [r15]
    refine ⟨by omega, by omega, fun s1 e1 s2 e2 v ev => ?_⟩
    rw [st_cm (by decide), st_stae, Int.toNat_natCast] at e1
    have r2 : s1 12 0 15 = (i : Int) := by rw [e1, rs_eq, up_eq]
    rw [r2, e1, st_st] at e2
    have ev2 : v = ((walk pk (i + 1) : Nat) : Int) := by
      show v = ((walk pk i + (pk (walk pk i)).toNat : Nat) : Int)
      rw [e, Int.toNat_natCast]
      omega
    rw [e2, ev2, show ((i : Int) + 1) = ((i + 1 : Nat) : Int) by omega]
    refine ih (i + 1) n _ (by omega) (by omega) (fun j hj => ?_)
    by_cases y : j = i
    · rw [y, up_eq]
      exact ⟨by omega, e.symm⟩
    · rw [up_ne y]
      exact hf j (by omega)
theorem sm_bucks {σ : St} {s k : Int} {all : Nat} {Q : Int → St → Prop} (hs : 0 ≤ s ∧ s ≤ 3) (hk : 0 ≤ k ∧ k ≤ 3) (ht : ∀ i, i < 4 → 1 ≤ σ 87 0 i ∧ σ 87 0 i ≤ 3) (hp : ∀ i, 0 ≤ σ 92 0 i ∧ σ 92 0 i ≤ 99) (hall : (all : Int) = 4 + 2 * k)
    (q : ∀ F G f m, (∀ a, a ≤ all → BAt (σ 92 0) (fun e => wdv (σ 87 0) s k e) all F a ∧ PAt (σ 92 0) (fun e => wdv (σ 87 0) s k e) all F a (G a)) → Pcs all G f m → Q (F 0) (st (sta (sta σ 94 0 F) 93 0 f) 12 0 15 m)) : wp_X12_bucks σ s k Q := by
  unfold wp_X12_bucks wp_X12_unitsOf
  have e := bm_loop (σ := σ) (s := s) (k := k) (all := all) (K := wp_X12_bucks_144 Q) (Q := Q) hs hk ht hp hall ?_ (all + 1) 13 (σ 94 0) (by omega) (by omega) (fun a a1 a2 => absurd a1 (by omega)) (fun a a1 a2 => absurd a1 (by omega))
  · rw [sta_self, show (((all + 1 : Nat) : Int) - 1) = (all : Int) by omega, hall] at e
    exact ⟨13, e⟩
  intro F hB hF s1 e1
  have hx : ∀ a, ∃ g, a ≤ all → PAt (σ 92 0) (fun e => wdv (σ 87 0) s k e) all F a g := fun a => by
    by_cases c : a ≤ all
    · obtain ⟨g, hg⟩ := PAt_ex (hB a c)
      exact ⟨g, fun _ => hg⟩
    · exact ⟨0, fun z => absurd z c⟩
  obtain ⟨G, hG⟩ : ∃ G : Nat → Int, ∀ a, a ≤ all → PAt (σ 92 0) (fun e => wdv (σ 87 0) s k e) all F a (G a) := ⟨fun a => Classical.choose (hx a), fun a ha => Classical.choose_spec (hx a) ha⟩
  refine ⟨7, ?_⟩
  obtain ⟨S, eS⟩ : ∃ S : St, S = sta σ 94 0 F := ⟨_, rfl⟩
  have h94 : S 94 0 = F := by rw [eS, ra_eq]
  have h92 : S 92 = σ 92 := by rw [eS, ra_ne (by decide)]
  have h87 : S 87 = σ 87 := by rw [eS, ra_ne (by decide)]
  have pl := pm_loop (S := S) (s := s) (k := k) (all := all) (pk := G) (K := wp_X12_bucks_254 Q) (Q := Q) hs hk (by rw [h87]; exact ht) (by rw [h92]; exact hp) (by omega) (by rw [h94]; exact fun i hi => by have := hF i hi; omega) (by rw [h92, h87, h94]; exact hG) (fun f m hp => ?_) 5 0 7 (S 93 0) (by omega) (by omega) (fun j hj => absurd hj (by omega))
  · rw [sta_self, eS] at pl
    rw [e1]
    exact pl
  · unfold wp_X12_bucks_254
    have r94 : st (sta S 93 0 f) 12 0 15 (m : Int) 94 0 = F := by rw [rs_ne (by decide), ra_ne (by decide), h94]
    rw [r94, eS]
    exact q F G f m (fun a ha => ⟨hB a ha, hG a ha⟩) hp
theorem Pcs_uni {all : Nat} {pk pk' f f' : Nat → Int} {m m' : Nat} (e : ∀ a, a ≤ all → pk' a = pk a) (h : Pcs all pk f m) (h' : Pcs all pk' f' m') : m' = m ∧ ∀ i, i < m → f' i = f i := by
  have wk : ∀ i, i ≤ m → i ≤ m' → walk pk' i = walk pk i := by
    intro i
    induction i with
    | zero => intro _ _; rfl
    | succ i ih =>
      intro h1 h2
      have a := ih (by omega) (by omega)
      have b := (h.2.1 i (by omega)).1
      show walk pk' i + (pk' (walk pk' i)).toNat = walk pk i + (pk (walk pk i)).toNat
      rw [a, e _ (by omega)]
  have em : m' = m := by
    rcases Nat.lt_trichotomy m m' with z | z | z
    · have a := (h'.2.1 m z).1
      rw [wk m (by omega) (by omega)] at a
      have b := h.2.2
      omega
    · exact z.symm
    · have a := (h.2.1 m' z).1
      have b := h'.2.2
      rw [wk m' (by omega) (by omega)] at b
      omega
  refine ⟨em, fun i hi => ?_⟩
  rw [(h.2.1 i hi).2, (h'.2.1 i (by omega)).2, wk i (by omega) (by omega), e _ (by have := (h.2.1 i hi).1; omega)]
/-- class and reference choose alike -/
theorem bk_eq {P W F G F' G' f f' : Nat → Int} {all m m' : Nat} (h : ∀ a, a ≤ all → BAt P W all F a ∧ PAt P W all F a (G a)) (h' : ∀ a, a ≤ all → BAt P W all F' a ∧ PAt P W all F' a (G' a)) (hp : Pcs all G f m) (hp' : Pcs all G' f' m') : F' 0 = F 0 ∧ m' = m ∧ ∀ i, i < m → f' i = f i := by
  have ef : ∀ a, a ≤ all → F' a = F a := fun a ha => B_uni (fun a ha => (h' a ha).1) (fun a ha => (h a ha).1) (all - a) a (by omega)
  have eg : ∀ a, a ≤ all → G' a = G a := fun a ha => PAt_uni (h a ha).2 (PAt_congr (fun i _ hi => ef i hi) ha (h' a ha).2)
  obtain ⟨a, b⟩ := Pcs_uni eg hp hp'
  exact ⟨ef 0 (by omega), a, b⟩
