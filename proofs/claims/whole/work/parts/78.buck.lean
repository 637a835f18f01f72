/-! the pieces of the greatest worth: what both sides compute -/
def gn (P W b : Nat → Int) (at' u : Nat) : Int := P u * W (at' + u) + b (at' + u)
def BAt (P W : Nat → Int) (all : Nat) (b : Nat → Int) (a : Nat) : Prop := (all < a + 2 → b a = 0) ∧ (a + 2 ≤ all → (∀ u, 2 ≤ u → u ≤ 6 → a + u ≤ all → gn P W b a u ≤ b a) ∧ ∃ u, 2 ≤ u ∧ u ≤ 6 ∧ a + u ≤ all ∧ gn P W b a u = b a)
def PAt (P W : Nat → Int) (all : Nat) (b : Nat → Int) (a : Nat) (g : Int) : Prop := (all < a + 2 → g = 0) ∧ (a + 2 ≤ all → ∃ u : Nat, g = u ∧ 2 ≤ u ∧ u ≤ 6 ∧ a + u ≤ all ∧ gn P W b a u = b a ∧ ∀ u', 2 ≤ u' → u' < u → ¬ gn P W b a u' = b a)
theorem gn_congr {P W b b' : Nat → Int} {a u : Nat} (h : b (a + u) = b' (a + u)) : gn P W b a u = gn P W b' a u := by
  unfold gn
  rw [h]
theorem B_uni {P W b b' : Nat → Int} {all : Nat} (h : ∀ a, a ≤ all → BAt P W all b a) (h' : ∀ a, a ≤ all → BAt P W all b' a) : ∀ d a, a + d = all → b a = b' a := by
  intro d
  induction d using Nat.strongRecOn with
  | ind d ih =>
    intro a ha
    obtain ⟨x1, x2⟩ := h a (by omega)
    obtain ⟨y1, y2⟩ := h' a (by omega)
    by_cases c : all < a + 2
    · rw [x1 c, y1 c]
    · obtain ⟨m1, u1, p1, p2, p3, p4⟩ := x2 (by omega)
      obtain ⟨m2, u2, q1, q2, q3, q4⟩ := y2 (by omega)
      have e1 := gn_congr (P := P) (W := W) (b := b) (b' := b') (a := a) (u := u1) (ih (d - u1) (by omega) (a + u1) (by omega))
      have e2 := gn_congr (P := P) (W := W) (b := b) (b' := b') (a := a) (u := u2) (ih (d - u2) (by omega) (a + u2) (by omega))
      have z1 := m1 u2 q1 q2 q3
      have z2 := m2 u1 p1 p2 p3
      omega
theorem gn_b {P W b : Nat → Int} {a u : Nat} {B : Int} (hP : ∀ i, 0 ≤ P i ∧ P i ≤ 99) (hW : 1 ≤ W (a + u) ∧ W (a + u) ≤ 34) (hb : 0 ≤ b (a + u) ∧ b (a + u) ≤ B) : 0 ≤ gn P W b a u ∧ gn P W b a u ≤ 3366 + B := by
  have p := hP u
  have e := mul_b (a := P u) (b := W (a + u)) (A := 99) (B := 34) p.1 p.2 (by omega) hW.2
  unfold gn
  omega
/-- first argument of the greatest so far -/
def Rn (P W b : Nat → Int) (all a u : Nat) (v g : Int) : Prop := (∀ u', 2 ≤ u' → u' < u → a + u' ≤ all → gn P W b a u' ≤ v) ∧ ((v = -1 ∧ g = 0 ∧ u = 2) ∨ ∃ w : Nat, g = w ∧ 2 ≤ w ∧ w < u ∧ w ≤ 6 ∧ a + w ≤ all ∧ gn P W b a w = v ∧ ∀ u', 2 ≤ u' → u' < w → ¬ gn P W b a u' = v)
theorem Rn_end {P W b : Nat → Int} {all a u : Nat} {v g : Int} (h : Rn P W b all a u v g) (hu : 2 ≤ u) (he : 6 < u ∨ all < a + u) (h0 : ∀ w, 2 ≤ w → w ≤ 6 → a + w ≤ all → 0 ≤ gn P W b a w) : (g = 0 ↔ all < a + 2) ∧ (a + 2 ≤ all → (∀ u', 2 ≤ u' → u' ≤ 6 → a + u' ≤ all → gn P W b a u' ≤ v) ∧ ∃ w : Nat, g = w ∧ 2 ≤ w ∧ w ≤ 6 ∧ a + w ≤ all ∧ gn P W b a w = v ∧ ∀ u', 2 ≤ u' → u' < w → ¬ gn P W b a u' = v) := by
  obtain ⟨h1, h2⟩ := h
  refine ⟨⟨fun z => ?_, fun z => ?_⟩, fun z => ⟨fun u' a1 a2 a3 => h1 u' a1 (by omega) a3, ?_⟩⟩
  · rcases h2 with ⟨-, -, e⟩ | ⟨w, e, a1, -⟩
    · omega
    · omega
  · rcases h2 with ⟨-, e, -⟩ | ⟨w, e, a1, a2, a3, a4, -⟩
    · exact e
    · omega
  · rcases h2 with ⟨-, -, e⟩ | ⟨w, e, a1, a2, a3, a4, a5, a6⟩
    · omega
    · exact ⟨w, e, a1, a3, a4, a5, a6⟩
theorem Rn_step {P W b : Nat → Int} {all a u : Nat} {v g : Int} (h : Rn P W b all a u v g) (hu : 2 ≤ u) (h6 : u ≤ 6) (ha : a + u ≤ all) (h0 : 0 ≤ gn P W b a u) (h00 : -1 ≤ v) : (gn P W b a u ≤ v → Rn P W b all a (u + 1) v g) ∧ (¬ gn P W b a u ≤ v → Rn P W b all a (u + 1) (gn P W b a u) u) := by
  obtain ⟨h1, h2⟩ := h
  constructor
  · intro c
    refine ⟨fun u' a1 a2 a3 => ?_, ?_⟩
    · by_cases e : u' = u
      · rw [e]
        exact c
      · exact h1 u' a1 (by omega) a3
    · rcases h2 with ⟨e, -, -⟩ | ⟨w, e, a1, a2, a3, a4, a5, a6⟩
      · omega
      · exact Or.inr ⟨w, e, a1, by omega, a3, a4, a5, a6⟩
  · intro c
    refine ⟨fun u' a1 a2 a3 => ?_, Or.inr ⟨u, rfl, hu, by omega, h6, ha, rfl, fun u' a1 a2 a3 => ?_⟩⟩
    · by_cases e : u' = u
      · rw [e]
        exact Int.le_refl _
      · have := h1 u' a1 (by omega) a3
        omega
    · have := h1 u' a1 a2 (by omega)
      omega
theorem weigh_loop {σ : St} {s k : Int} {all a : Nat} {F G : Nat → Int} {K : St → Int → Prop} {Q : St → Prop} (hs : 0 ≤ s ∧ s ≤ 3) (hk : 0 ≤ k ∧ k ≤ 3) (ht : ∀ i, i < 4 → 1 ≤ σ 33 0 i ∧ σ 33 0 i ≤ 3) (hp : ∀ i, 0 ≤ σ 20 0 i ∧ σ 20 0 i ≤ 99) (hall : all ≤ 10) (ha : a ≤ all) (hF : ∀ i, a < i → i ≤ all → 0 ≤ F i ∧ F i ≤ 100000)
    (q : ∀ v g : Int, ((g = 0 ↔ all < a + 2) ∧ (a + 2 ≤ all → (∀ u', 2 ≤ u' → u' ≤ 6 → a + u' ≤ all → gn (σ 20 0) (fun e => wdv (σ 33 0) s k e) F a u' ≤ v) ∧ ∃ w : Nat, g = w ∧ 2 ≤ w ∧ w ≤ 6 ∧ a + w ≤ all ∧ gn (σ 20 0) (fun e => wdv (σ 33 0) s k e) F a w = v ∧ ∀ u', 2 ≤ u' → u' < w → ¬ gn (σ 20 0) (fun e => wdv (σ 33 0) s k e) F a u' = v)) → K (sta (sta σ 21 0 (up F a v)) 22 0 (up G a g)) a) :
    ∀ (c u n : Nat) (v g : Int), u + c = 7 → 2 ≤ u → c < n → -1 ≤ v → v ≤ 200000 → Rn (σ 20 0) (fun e => wdv (σ 33 0) s k e) F all a u v g → wp_X0_weigh_25 K Q n (sta (sta σ 21 0 (up F a v)) 22 0 (up G a g)) s k a all u := by
  have h0 : ∀ w, 2 ≤ w → w ≤ 6 → a + w ≤ all → 0 ≤ gn (σ 20 0) (fun e => wdv (σ 33 0) s k e) F a w ∧ gn (σ 20 0) (fun e => wdv (σ 33 0) s k e) F a w ≤ 3366 + 100000 := fun w w1 w2 w3 => by
    have t := ht s.toNat (by omega)
    have wb := wdv_b (tp := σ 33 0) (u := ((a + w : Nat) : Int)) hs hk t (by omega)
    exact gn_b hp (by show 1 ≤ wdv _ _ _ _ ∧ wdv _ _ _ _ ≤ 34; omega) (hF _ (by omega) w3)
  intro c
  induction c with
  | zero =>
    intro u n v g hu h2 hn v1 v2 hr
    obtain ⟨n, rfl⟩ : ∃ n', n = n' + 1 := ⟨n - 1, by omega⟩
    unfold wp_X0_weigh_25
    exact ⟨⟨by omega, by omega⟩, fun _ => q v g (Rn_end hr h2 (by omega) (fun w a1 a2 a3 => (h0 w a1 a2 a3).1)), fun z => absurd (by omega) z⟩
  | succ c ih =>
    intro u n v g hu h2 hn v1 v2 hr
    obtain ⟨n, rfl⟩ : ∃ n', n = n' + 1 := ⟨n - 1, by omega⟩
    unfold wp_X0_weigh_25 wp_X0_weigh_105
    refine ⟨⟨by omega, by omega⟩, fun z => absurd z (by omega), fun _ => ⟨⟨by omega, by omega⟩, ⟨by omega, by omega⟩, fun d => q v g (Rn_end hr h2 (by omega) (fun w a1 a2 a3 => (h0 w a1 a2 a3).1)), fun d v9 e9 => ⟨by omega, by omega, ?_⟩⟩⟩
    have gb := h0 u h2 (by omega) (by omega)
    obtain ⟨st1, st2⟩ := Rn_step hr h2 (by omega) (by omega) gb.1 v1
    have r33 : sta (sta σ 21 0 (up F a v)) 22 0 (up G a g) 33 = σ 33 := by rw [ra_ne (by decide), ra_ne (by decide)]
    have r20 : sta (sta σ 21 0 (up F a v)) 22 0 (up G a g) 20 = σ 20 := by rw [ra_ne (by decide), ra_ne (by decide)]
    have r21 : sta (sta σ 21 0 (up F a v)) 22 0 (up G a g) 21 0 = up F a v := by rw [ra_ne (by decide), ra_eq]
    refine sx_wideAt hs hk (by rw [r33]; exact ht) (by omega) ?_
    rw [r33, r20, r21]
    refine ⟨by omega, by omega, fun v8 e8 => ?_⟩
    rw [show Int.toNat v9 = a + u by omega, up_ne (by omega), Int.toNat_natCast] at e8
    have e7 : v8 = gn (σ 20 0) (fun e => wdv (σ 33 0) s k e) F a u := by
      rw [e8, e9]
      rfl
    rw [Int.toNat_natCast, up_eq, e7, show ((u : Int) + 1) = ((u + 1 : Nat) : Int) by omega]
    refine ⟨by omega, by omega, ⟨by omega, by omega⟩, ⟨by omega, by omega⟩, fun z => ih (u + 1) n v g (by omega) (by omega) (by omega) v1 v2 (st1 z), fun z => ⟨by omega, by omega, fun s1 e1 => ⟨by omega, by omega, fun s2 e2 => ?_⟩⟩⟩
    rw [st_stac (by decide), st_stae, up_up] at e1
    rw [e1, st_stae, up_up] at e2
    rw [e2]
    exact ih (u + 1) n _ _ (by omega) (by omega) (by omega) (by omega) (by omega) (st2 z)
/-- one place is weighed, of the class -/
theorem sx_weigh {σ : St} {s k : Int} {all a : Nat} {F G : Nat → Int} {Q : St → Prop} (hs : 0 ≤ s ∧ s ≤ 3) (hk : 0 ≤ k ∧ k ≤ 3) (ht : ∀ i, i < 4 → 1 ≤ σ 33 0 i ∧ σ 33 0 i ≤ 3) (hp : ∀ i, 0 ≤ σ 20 0 i ∧ σ 20 0 i ≤ 99) (hall : (all : Int) = 4 + 2 * k) (ha : a ≤ all) (hF : ∀ i, a < i → i ≤ all → 0 ≤ F i ∧ F i ≤ 3366 * ((all : Int) - i))
    (q : ∀ v g : Int, (0 ≤ v ∧ v ≤ 3366 * ((all : Int) - a)) → BAt (σ 20 0) (fun e => wdv (σ 33 0) s k e) all (up F a v) a → PAt (σ 20 0) (fun e => wdv (σ 33 0) s k e) all (up F a v) a g → Q (sta (sta σ 21 0 (up F a v)) 22 0 (up G a g))) : wp_X0_weigh (sta (sta σ 21 0 F) 22 0 G) s k a Q := by
  have ne : ∀ v u, 2 ≤ u → gn (σ 20 0) (fun e => wdv (σ 33 0) s k e) (up F a v) a u = gn (σ 20 0) (fun e => wdv (σ 33 0) s k e) F a u := fun v u hu => gn_congr (up_ne (by omega))
  have h0 : ∀ w, 2 ≤ w → w ≤ 6 → a + w ≤ all → 0 ≤ gn (σ 20 0) (fun e => wdv (σ 33 0) s k e) F a w ∧ gn (σ 20 0) (fun e => wdv (σ 33 0) s k e) F a w ≤ 3366 * ((all : Int) - a) := fun w w1 w2 w3 => by
    have t := ht s.toNat (by omega)
    have wb := wdv_b (tp := σ 33 0) (u := ((a + w : Nat) : Int)) hs hk t (by omega)
    have e := gn_b (P := σ 20 0) (W := fun e => wdv (σ 33 0) s k e) (b := F) hp (by show 1 ≤ wdv _ _ _ _ ∧ wdv _ _ _ _ ≤ 34; omega) (hF _ (by omega) w3)
    omega
  unfold wp_X0_weigh wp_X3_lengthOf
  refine ⟨by omega, by omega, fun s1 e1 => ⟨by omega, by omega, fun s2 e2 => ⟨6, ?_⟩⟩⟩
  rw [Int.toNat_natCast, st_stac (by decide), st_stae] at e1
  rw [Int.toNat_natCast, e1, st_stae] at e2
  rw [e2, ← hall]
  refine weigh_loop hs hk ht hp (by omega) ha (fun i i1 i2 => by have := hF i i1 i2; omega) (fun v g hd => ?_) 5 2 6 (-1) 0 (by omega) (by omega) (by omega) (by omega) (by omega) ⟨fun u' a1 a2 => absurd a2 (by omega), Or.inl ⟨rfl, rfl, rfl⟩⟩
  obtain ⟨d1, d2⟩ := hd
  unfold wp_X0_weigh_111
  have r22 : sta (sta σ 21 0 (up F a v)) 22 0 (up G a g) 22 0 = up G a g := ra_eq
  rw [r22, Int.toNat_natCast, up_eq]
  by_cases c : all < a + 2
  · have g0 := d1.mpr c
    refine ⟨by omega, by omega, ⟨by omega, by omega⟩, fun z => absurd g0 z, fun _ => ⟨by omega, by omega, fun s3 e3 => ?_⟩⟩
    rw [st_stac (by decide), st_stae, up_up] at e3
    rw [e3]
    exact q 0 g (by omega) ⟨fun _ => up_eq, fun z => absurd z (by omega)⟩ ⟨fun _ => g0, fun z => absurd z (by omega)⟩
  · obtain ⟨m1, w, e, w1, w2, w3, w4, w5⟩ := d2 (by omega)
    have hb := h0 w w1 w2 w3
    refine ⟨by omega, by omega, ⟨by omega, by omega⟩, fun _ => q v g (by omega) ⟨fun z => absurd z c, fun _ => ⟨fun u a1 a2 a3 => ?_, w, w1, w2, w3, ?_⟩⟩ ⟨fun z => absurd z c, fun _ => ⟨w, e, w1, w2, w3, ?_, fun u' a1 a2 => ?_⟩⟩, fun z => absurd z (by omega)⟩
    · rw [ne v u a1, up_eq]
      exact m1 u a1 a2 a3
    · rw [ne v w w1, up_eq]
      exact w4
    · rw [ne v w w1, up_eq]
      exact w4
    · rw [ne v u' a1, up_eq]
      exact w5 u' a1 a2
