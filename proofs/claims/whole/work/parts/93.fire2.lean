/-! fire: the reference's steps -/
def Spread (C : Nat → Nat → Prop) (first : Nat) : Nat → (Nat → Int) → Prop
  | 0, f => ∀ c, c < 64 → f c = if c = first then 0 else -1
  | s + 1, f => ∃ R, Spread C first s R ∧ FI R ((s + 1 : Nat) : Int) (fun a c => a < 64 ∧ ¬ R a = -1 ∧ C a c) f
theorem Spread_b {C : Nat → Nat → Prop} {first : Nat} : ∀ s f, Spread C first s f → ∀ c, c < 64 → -1 ≤ f c ∧ f c ≤ s := by
  intro s
  induction s with
  | zero =>
    intro f h c hc
    have e := h c hc
    split at e <;> omega
  | succ s ih =>
    intro f h c hc
    obtain ⟨R, h1, h2⟩ := h
    have b := ih R h1 c hc
    rcases h2 c hc with ⟨-, z⟩ | ⟨-, z, -⟩ | ⟨-, z, -⟩ <;> omega
theorem Spread_c {C : Nat → Nat → Prop} {first : Nat} : ∀ s f, Spread C first s f → ∀ a c, a < 64 → c < 64 → ¬ f a = -1 → f a < s → C a c → ¬ f c = -1 := by
  intro s
  cases s with
  | zero =>
    intro f h a c ha hc h1 h2 hC
    have e := h a ha
    split at e <;> omega
  | succ s =>
    intro f h a c ha hc h1 h2 hC e
    obtain ⟨R, g1, g2⟩ := h
    have hr : ¬ R a = -1 := by
      intro er
      rcases g2 a ha with ⟨z, -⟩ | ⟨-, z, -⟩ | ⟨-, z, -⟩
      · exact z er
      · omega
      · exact h1 z
    rcases g2 c hc with ⟨z1, z2⟩ | ⟨-, z, -⟩ | ⟨-, -, z⟩
    · omega
    · omega
    · exact z a ⟨ha, hr, hC⟩
theorem FI_R {R R' f : Nat → Int} {s : Int} {P : Nat → Nat → Prop} (h : FI R s P f) (e : ∀ c, c < 64 → R' c = R c) : FI R' s P f := by
  intro c hc
  rw [e c hc]
  exact h c hc
theorem Spread_uni {C : Nat → Nat → Prop} {first : Nat} : ∀ s f f', Spread C first s f → Spread C first s f' → ∀ c, c < 64 → f' c = f c := by
  intro s
  induction s with
  | zero =>
    intro f f' h h' c hc
    rw [h c hc, h' c hc]
  | succ s ih =>
    intro f f' h h'
    obtain ⟨R, h1, h2⟩ := h
    obtain ⟨R', h1', h2'⟩ := h'
    have e := ih R R' h1 h1'
    refine FI_uni h2 (FI_R h2' (fun c hc => (e c hc).symm)) (fun c hc _ => ?_)
    constructor
    · rintro ⟨a, a1, a2, a3⟩
      exact ⟨a, a1, by rw [← e a a1]; exact a2, a3⟩
    · rintro ⟨a, a1, a2, a3⟩
      exact ⟨a, a1, by rw [e a a1]; exact a2, a3⟩
theorem fa_loop {σ : St} {R : Nat → Int} {s : Nat} {w m : Int} {K : St → Int → Int → Int → Prop} {Q : Int → St → Prop} (hF : FiR σ) (hw : 0 ≤ w ∧ w ≤ 3) (hR : ∀ c, c < 64 → -1 ≤ R c ∧ R c < s) (hs : s ≤ 20) (q : ∀ f, FI R s (fun a c => a < 64 ∧ ¬ R a = -1 ∧ CatR σ w a c) f → K (sta σ 141 0 f) w m s) :
    ∀ (k a n : Nat) (f : Nat → Int), a + k = 64 → k < n → FI R s (Pab R (CatR σ w) a 0) f → wp_X12_fires_43 K Q n (sta σ 141 0 f) w m s a := by
  intro k
  induction k with
  | zero =>
    intro a n f ha hn hf
    obtain ⟨n, rfl⟩ : ∃ n', n = n' + 1 := ⟨n - 1, by omega⟩
    unfold wp_X12_fires_43
    refine ⟨⟨by omega, by omega⟩, fun _ => q f (FI_mono hf (fun a' c hc => ?_)), fun z => absurd (by omega) z⟩
    unfold Pab
    constructor
    · rintro ⟨y1, y2⟩
      exact ⟨by omega, y2⟩
    · rintro ⟨y1, y2⟩
      exact ⟨by omega, y2⟩
  | succ k ih =>
    intro a n f ha hn hf
    obtain ⟨n, rfl⟩ : ∃ n', n = n' + 1 := ⟨n - 1, by omega⟩
    have ha2 : a < 64 := by omega
    have nx := fun f hf => ih (a + 1) n f (by omega) (by omega) hf
    have r := hR a ha2
    have fb : -1 ≤ f a ∧ f a ≤ 20 ∧ (R a = -1 → f a = -1 ∨ f a = s) ∧ (¬ R a = -1 → f a = R a) := by
      rcases hf a ha2 with ⟨y, z⟩ | ⟨y, z, -⟩ | ⟨y, z, -⟩
      · exact ⟨by omega, by omega, fun u => absurd u y, fun _ => z⟩
      · exact ⟨by omega, by omega, fun _ => Or.inr z, fun u => absurd y u⟩
      · exact ⟨by omega, by omega, fun _ => Or.inl z, fun u => absurd y u⟩
    obtain ⟨b1, b2, b3, b4⟩ := fb
    have sk : R a = -1 → wp_X12_fires_156 (fun σ x2 x3 x4 x5 => wp_X12_fires_43 K Q n σ x2 x3 x4 x5) K Q (sta σ 141 0 f) w m s a := by
      intro e
      refine nx f (FI_mono hf (fun a' c hc => ?_))
      unfold Pab
      constructor
      · rintro ⟨y1, y2⟩
        by_cases u : a' = a
        · rw [u] at y2
          exact absurd e y2.1
        · exact ⟨by omega, y2⟩
      · rintro ⟨y1, y2⟩
        exact ⟨by omega, y2⟩
    have r141 : sta σ 141 0 f 141 0 = f := ra_eq
    unfold wp_X12_fires_43
    rw [Int.toNat_natCast, r141]
    refine ⟨⟨by omega, by omega⟩, fun z => absurd z (by omega), fun _ => ⟨by omega, by omega, ⟨by omega, by omega⟩, fun y => sk ?_, fun y => ⟨by omega, by omega, ⟨by omega, by omega⟩, ⟨by omega, by omega⟩, fun z => ⟨65, ?_⟩, fun z => sk ?_⟩⟩⟩
    · by_cases e : R a = -1
      · exact e
      · exact absurd ((b4 e).symm.trans y) e
    · have hx : ¬ R a = -1 := by
        intro e
        rcases b3 e with u | u
        · exact y u
        · omega
      exact fb_loop hF hw ha2 hR hs hx (fun f hf => nx f hf) 64 0 65 f (by omega) (by omega) hf
    · by_cases e : R a = -1
      · exact e
      · have := b4 e
        omega
theorem fs_loop {σ : St} {first m : Nat} {w : Int} {K : St → Prop} {Q : Int → St → Prop} (hF : FiR σ) (hw : 0 ≤ w ∧ w ≤ 3) (hm : m ≤ 20) (q : ∀ f, Spread (CatR σ w) first m f → K (sta σ 141 0 f)) :
    ∀ (k s n : Nat) (f : Nat → Int), s + k = m → k < n → Spread (CatR σ w) first s f → wp_X12_fires_34 K Q n (sta σ 141 0 f) w m ((s + 1 : Nat) : Int) := by
  intro k
  induction k with
  | zero =>
    intro s n f hs hn hf
    obtain ⟨n, rfl⟩ : ∃ n', n = n' + 1 := ⟨n - 1, by omega⟩
    have e : s = m := by omega
    subst e
    unfold wp_X12_fires_34
    exact ⟨⟨by omega, by omega⟩, ⟨by omega, by omega⟩, fun _ => q f hf, fun z => absurd (by omega) z⟩
  | succ k ih =>
    intro s n f hs hn hf
    obtain ⟨n, rfl⟩ : ∃ n', n = n' + 1 := ⟨n - 1, by omega⟩
    have b := Spread_b s f hf
    unfold wp_X12_fires_34
    refine ⟨⟨by omega, by omega⟩, ⟨by omega, by omega⟩, fun z => absurd z (by omega), fun _ => ⟨65, ?_⟩⟩
    refine fa_loop (s := s + 1) (R := f) hF hw (fun c hc => by have := b c hc; omega) (by omega) (fun f2 hf2 => ?_) 64 0 65 f (by omega) (by omega) (fun c hc => ?_)
    · unfold wp_X12_fires_162
      rw [show ((s + 1 : Nat) : Int) + 1 = ((s + 1 + 1 : Nat) : Int) by omega]
      exact ih (s + 1) n f2 (by omega) (by omega) ⟨f, hf, hf2⟩
    · by_cases e : f c = -1
      · refine Or.inr (Or.inr ⟨e, e, fun a h => ?_⟩)
        have := h.1
        omega
      · exact Or.inl ⟨e, rfl⟩
theorem f0_loop {σ : St} {x1 w m : Int} {K : St → Int → Int → Int → Prop} {Q : Int → St → Prop} (q : ∀ f : Nat → Int, (∀ c, c < 64 → f c = -1) → K (sta σ 141 0 f) x1 w m) :
    ∀ (k b n : Nat) (f : Nat → Int), b + k = 64 → k < n → (∀ c, c < b → f c = -1) → wp_X12_fires_3 K Q n (sta σ 141 0 f) x1 w m b := by
  intro k
  induction k with
  | zero =>
    intro b n f hb hn hf
    obtain ⟨n, rfl⟩ : ∃ n', n = n' + 1 := ⟨n - 1, by omega⟩
    unfold wp_X12_fires_3
    exact ⟨⟨by omega, by omega⟩, fun _ => q f (fun c hc => hf c (by omega)), fun z => absurd (by omega) z⟩
  | succ k ih =>
    intro b n f hb hn hf
    obtain ⟨n, rfl⟩ : ∃ n', n = n' + 1 := ⟨n - 1, by omega⟩
    unfold wp_X12_fires_3
    rw [Int.toNat_natCast, show ((b : Int) + 1) = ((b + 1 : Nat) : Int) by omega]
    refine ⟨⟨by omega, by omega⟩, fun z => absurd z (by omega), fun _ => ⟨by omega, by omega, fun s1 e1 => ?_⟩⟩
    rw [st_stae] at e1
    rw [e1]
    refine ih (b + 1) n _ (by omega) (by omega) (fun c hc => ?_)
    unfold up
    split
    · rfl
    · exact hf c (by omega)
/-- where the fire is in the end, of the reference -/
theorem sm_fires {σ : St} {first m : Nat} {w : Int} {Q : Int → St → Prop} (hF : FiR σ) (hw : 0 ≤ w ∧ w ≤ 3) (hm : m ≤ 20) (h1 : first < 64) (q : ∀ f, Spread (CatR σ w) first m f → wp_X12_fires_168 Q (sta σ 141 0 f)) : wp_X12_fires σ first w m Q := by
  unfold wp_X12_fires
  have e := f0_loop (σ := σ) (x1 := first) (w := w) (m := m) (K := wp_X12_fires_24 Q) (Q := Q) (fun f hf => ?_) 64 0 65 (σ 141 0) (by omega) (by omega) (fun c hc => absurd hc (by omega))
  · rw [sta_self] at e
    exact ⟨65, e⟩
  · unfold wp_X12_fires_24
    rw [Int.toNat_natCast]
    refine ⟨by omega, by omega, fun s1 e1 => ⟨22, ?_⟩⟩
    rw [st_stae] at e1
    rw [e1]
    refine fs_loop hF hw hm q m 0 22 _ (by omega) (by omega) (fun c hc => ?_)
    unfold up
    split
    · rfl
    · exact hf c hc
