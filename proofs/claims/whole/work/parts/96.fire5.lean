/-! fire: the class's spread in whole -/
theorem FI_ex {R f : Nat → Int} {s : Int} {P P' : Nat → Nat → Prop} (h : FI R s P f) (hp : ∀ c, c < 64 → R c = -1 → ((∃ a, P' a c) ↔ ∃ a, P a c)) : FI R s P' f := by
  intro c hc
  rcases h c hc with z | ⟨z1, z2, z3⟩ | ⟨z1, z2, z3⟩
  · exact Or.inl z
  · exact Or.inr (Or.inl ⟨z1, z2, (hp c hc z1).2 z3⟩)
  · refine Or.inr (Or.inr ⟨z1, z2, fun a y => ?_⟩)
    obtain ⟨a', y'⟩ := (hp c hc z1).1 ⟨a, y⟩
    exact z3 a' y'
theorem ca_loop {σ : St} {R : Nat → Int} {s : Nat} {w dry mx : Int} {K : St → Int → Int → Int → Int → Int → Prop} {Q : Int → St → Prop} (hX : FiX σ) (hw : 0 ≤ w ∧ w ≤ 3) (hd : 0 ≤ dry ∧ dry ≤ 9) (hR : ∀ c, c < 64 → -1 ≤ R c ∧ R c < s) (hs : 1 ≤ s ∧ s ≤ 20) (q : ∀ g : Nat → Int, FI R s (fun a c => a < 64 ∧ R a = (s : Int) - 1 ∧ CatX σ w dry a c) (fun c => g c - 1) → K (sta σ 34 0 g) w mx dry (lit g 64) s) :
    ∀ (k a n : Nat) (g : Nat → Int), a + k = 64 → k < n → FI R s (Pc R (CatX σ w dry) s a 0) (fun c => g c - 1) → wp_X3_spreadFire_46 K Q n (sta σ 34 0 g) w mx dry (lit g 64) s a := by
  intro k
  induction k with
  | zero =>
    intro a n g hk hn hf
    obtain ⟨n, rfl⟩ : ∃ n', n = n' + 1 := ⟨n - 1, by omega⟩
    unfold wp_X3_spreadFire_46
    refine ⟨⟨by omega, by omega⟩, fun _ => q g (FI_mono hf (fun a' c hc => ?_)), fun z => absurd (by omega) z⟩
    unfold Pc
    constructor
    · rintro ⟨y1, y2⟩
      exact ⟨Or.inl (by omega), y2⟩
    · rintro ⟨y1 | ⟨y0, d', y1, -⟩, y2⟩
      · exact ⟨by omega, y2⟩
      · omega
  | succ k ih =>
    intro a n g hk hn hf
    obtain ⟨n, rfl⟩ : ∃ n', n = n' + 1 := ⟨n - 1, by omega⟩
    have ha : a < 64 := by omega
    have nx := fun g hf => ih (a + 1) n g (by omega) (by omega) hf
    have r := hR a ha
    have gb : 0 ≤ g a ∧ g a ≤ 21 ∧ (g a = s ↔ R a = (s : Int) - 1) := by
      rcases hf a ha with ⟨y, z⟩ | ⟨y, z, -⟩ | ⟨y, z, -⟩ <;> dsimp only at z <;> omega
    unfold wp_X3_spreadFire_46
    rw [Int.toNat_natCast, ra_eq]
    refine ⟨⟨by omega, by omega⟩, fun z => absurd z (by omega), fun _ => ⟨by omega, by omega, ⟨by omega, by omega⟩, ⟨by omega, by omega⟩, fun y => ?_, fun y => ⟨5, ?_⟩⟩⟩
    · refine nx g (FI_mono hf (fun a' c hc => ?_))
      unfold Pc
      constructor
      · rintro ⟨y1 | ⟨y0, d', y1, -⟩, y2, y3⟩
        · by_cases e : a' = a
          · rw [e] at y2
            omega
          · exact ⟨Or.inl (by omega), y2, y3⟩
        · omega
      · rintro ⟨y1 | ⟨y0, d', y1, -⟩, y2⟩
        · exact ⟨Or.inl (by omega), y2⟩
        · omega
    · refine ki_loop (base := lit g 64) hX hw hd ha hR hs (by omega) (fun g2 m hf2 hm => ?_) 4 0 5 g 0 (by omega) (by omega) hf (by omega)
      intro v ev
      rw [ev, hm]
      exact nx g2 hf2
theorem cs_loop {σ : St} {first m : Nat} {w dry : Int} {Q : Int → St → Prop} (hX : FiX σ) (hw : 0 ≤ w ∧ w ≤ 3) (hd : 0 ≤ dry ∧ dry ≤ 9) (hm : m ≤ 20) (q : ∀ g : Nat → Int, Spread (CatX σ w dry) first m (fun c => g c - 1) → Q (lit g 64) (sta σ 34 0 g)) :
    ∀ (k s n : Nat) (g : Nat → Int), s + k = m → k < n → Spread (CatX σ w dry) first s (fun c => g c - 1) → wp_X3_spreadFire_37 Q n (sta σ 34 0 g) w m dry (lit g 64) ((s + 1 : Nat) : Int) := by
  intro k
  induction k with
  | zero =>
    intro s n g hs hn hf
    obtain ⟨n, rfl⟩ : ∃ n', n = n' + 1 := ⟨n - 1, by omega⟩
    have e : s = m := by omega
    subst e
    unfold wp_X3_spreadFire_37
    exact ⟨⟨by omega, by omega⟩, ⟨by omega, by omega⟩, fun _ => q g hf, fun z => absurd (by omega) z⟩
  | succ k ih =>
    intro s n g hs hn hf
    obtain ⟨n, rfl⟩ : ∃ n', n = n' + 1 := ⟨n - 1, by omega⟩
    have b := Spread_b s _ hf
    have cl := Spread_c s _ hf
    unfold wp_X3_spreadFire_37
    refine ⟨⟨by omega, by omega⟩, ⟨by omega, by omega⟩, fun z => absurd z (by omega), fun _ => ⟨65, ?_⟩⟩
    refine ca_loop (s := s + 1) (R := fun c => g c - 1) hX hw hd (fun c hc => by have := b c hc; omega) (by omega) (fun g2 hf2 => ?_) 64 0 65 g (by omega) (by omega) (fun c hc => ?_)
    · unfold wp_X3_spreadFire_89
      rw [show ((s + 1 : Nat) : Int) + 1 = ((s + 1 + 1 : Nat) : Int) by omega]
      refine ih (s + 1) n g2 (by omega) (by omega) ⟨_, hf, FI_ex hf2 (fun c hc hr => ?_)⟩
      constructor
      · rintro ⟨a, a1, a2, a3⟩
        refine ⟨a, a1, ?_, a3⟩
        have ba := b a a1
        by_cases e : g a - 1 < s
        · exact absurd hr (cl a c a1 hc a2 e a3)
        · have ba2 : -1 ≤ g a - 1 ∧ g a - 1 ≤ s := ba
          show g a - 1 = ((s + 1 : Nat) : Int) - 1
          omega
      · rintro ⟨a, a1, a2, a3⟩
        refine ⟨a, a1, ?_, a3⟩
        intro z
        have a4 : g a - 1 = ((s + 1 : Nat) : Int) - 1 := a2
        have z2 : g a - 1 = -1 := z
        omega
    · by_cases e : g c - 1 = -1
      · refine Or.inr (Or.inr ⟨e, e, fun a h => ?_⟩)
        obtain ⟨y1 | ⟨-, d', y1, -⟩, -⟩ := h <;> omega
      · exact Or.inl ⟨e, rfl⟩
theorem c0_loop {σ : St} {x1 w m dry : Int} {K : St → Int → Int → Int → Int → Prop} {Q : Int → St → Prop} (q : ∀ f : Nat → Int, (∀ c, c < 64 → f c = 0) → K (sta σ 34 0 f) x1 w m dry) :
    ∀ (k b n : Nat) (f : Nat → Int), b + k = 64 → k < n → (∀ c, c < b → f c = 0) → wp_X3_spreadFire_3 K Q n (sta σ 34 0 f) x1 w m dry b := by
  intro k
  induction k with
  | zero =>
    intro b n f hb hn hf
    obtain ⟨n, rfl⟩ : ∃ n', n = n' + 1 := ⟨n - 1, by omega⟩
    unfold wp_X3_spreadFire_3
    exact ⟨⟨by omega, by omega⟩, fun _ => q f (fun c hc => hf c (by omega)), fun z => absurd (by omega) z⟩
  | succ k ih =>
    intro b n f hb hn hf
    obtain ⟨n, rfl⟩ : ∃ n', n = n' + 1 := ⟨n - 1, by omega⟩
    unfold wp_X3_spreadFire_3
    rw [Int.toNat_natCast, show ((b : Int) + 1) = ((b + 1 : Nat) : Int) by omega]
    refine ⟨⟨by omega, by omega⟩, fun z => absurd z (by omega), fun _ => ⟨by omega, by omega, fun s1 e1 => ?_⟩⟩
    rw [st_stae] at e1
    rw [e1]
    refine ih (b + 1) n _ (by omega) (by omega) (fun c hc => ?_)
    unfold up
    split
    · rfl
    · exact hf c (by omega)
theorem lit_0 {g : Nat → Int} : ∀ n, (∀ c, c < n → g c = 0) → lit g n = 0 := by
  intro n
  induction n with
  | zero => intro _; rfl
  | succ n ih =>
    intro h
    have e2 : lit g (n + 1) = lit g n + if g n = 0 then 0 else 1 := rfl
    rw [e2, ih (fun c hc => h c (by omega)), if_pos (h n (by omega))]
    rfl
/-- where the fire is in the end, of the class -/
theorem sx_spread {σ : St} {first m : Nat} {w dry : Int} {Q : Int → St → Prop} (hX : FiX σ) (hw : 0 ≤ w ∧ w ≤ 3) (hd : 0 ≤ dry ∧ dry ≤ 9) (hm : m ≤ 20) (h1 : first < 64) (q : ∀ g : Nat → Int, Spread (CatX σ w dry) first m (fun c => g c - 1) → Q (lit g 64) (sta σ 34 0 g)) : wp_X3_spreadFire σ first w m dry Q := by
  unfold wp_X3_spreadFire
  have e := c0_loop (σ := σ) (x1 := first) (w := w) (m := m) (dry := dry) (K := wp_X3_spreadFire_24 Q) (Q := Q) (fun f hf => ?_) 64 0 65 (σ 34 0) (by omega) (by omega) (fun c hc => absurd hc (by omega))
  · rw [sta_self] at e
    exact ⟨65, e⟩
  · unfold wp_X3_spreadFire_24
    rw [Int.toNat_natCast]
    refine ⟨by omega, by omega, fun s1 e1 => ⟨22, ?_⟩⟩
    rw [st_stae] at e1
    rw [e1]
    have c := cs_loop hX hw hd hm q m 0 22 (up f first 1) (by omega) (by omega) (fun c hc => ?_)
    · rw [lit_up (hf first h1) (by decide), lit_0 64 hf, if_pos h1] at c
      exact c
    · dsimp only
      unfold up
      split
      · rfl
      · rw [hf c hc]
        rfl
