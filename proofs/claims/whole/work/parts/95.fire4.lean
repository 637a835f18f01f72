/-! fire: the class's steps -/
def FiX (σ : St) : Prop := (∀ i, 0 ≤ σ 28 0 i ∧ σ 28 0 i ≤ 40) ∧ (∀ i, 0 ≤ σ 29 0 i ∧ σ 29 0 i ≤ 900) ∧ ∀ i, 0 ≤ σ 30 0 i ∧ σ 30 0 i ≤ 200
def CatX (σ : St) (w dry : Int) : Nat → Nat → Prop := Cat (σ 28 0) (σ 29 0) (stm (σ 30 0)) dry w
theorem sx_catches {σ : St} {a b : Nat} {w dry : Int} {Q : Int → St → Prop} (hX : FiX σ) (ha : a < 64) (hb : b < 64) (hd : 0 ≤ dry ∧ dry ≤ 9) (hap : apv a b = 1) (q1 : CatX σ w dry a b → Q 1 σ) (q0 : ¬ CatX σ w dry a b → Q 0 σ) : wp_X3_catches σ a b (5 * dry + 8 * wa w a b) Q := by
  obtain ⟨f3, f4, f5⟩ := hX
  have sb := stm_b f5 b
  have h3a := f3 a
  have h3b := f3 b
  have lb := f4 b
  have wb := wa_b (w := w) ha hb
  have eb := Int.tdiv_eq_ediv_of_nonneg (a := stm (σ 30 0) b) (b := 10) sb.1
  have go : ¬ σ 29 0 b + stm (σ 30 0) b = 0 → wp_X3_catches_23 Q σ a b (5 * dry + 8 * wa w a b) (stm (σ 30 0) b) := by
    intro h0
    have g43 : ∀ y : Int, (if σ 28 0 b ≤ σ 28 0 a then (0 : Int) else 4) = y → wp_X3_catches_43 Q σ b (5 * dry + 8 * wa w a b) (stm (σ 30 0) b) y := by
      intro y ey
      have yb : 0 ≤ y ∧ y ≤ 4 := by
        rw [← ey]
        split <;> omega
      unfold wp_X3_catches_43
      rw [Int.toNat_natCast]
      have ef : fuv (σ 28 0) (σ 29 0) (stm (σ 30 0)) dry w a b = σ 29 0 b + Int.tdiv (stm (σ 30 0) b) 10 + 5 * dry + 8 * wa w a b + y := by
        unfold fuv
        rw [ey]
      rw [eb] at ef ⊢
      exact ⟨by omega, by omega, ⟨by omega, by omega⟩, ⟨by omega, by omega⟩, fun c => q0 (fun u => absurd u.2.2 (by rw [ef]; omega)), fun c => q1 ⟨hap, h0, by rw [ef]; omega⟩⟩
    unfold wp_X3_catches_23
    rw [Int.toNat_natCast, Int.toNat_natCast]
    exact ⟨by omega, by omega, by omega, by omega, ⟨by omega, by omega⟩, ⟨by omega, by omega⟩, fun c => g43 0 (if_pos c), fun c => g43 4 (if_neg c)⟩
  unfold wp_X3_catches
  refine sx_stemsIn hb ?_
  rw [Int.toNat_natCast]
  show inR (stm (σ 30 0) b) ∧ (¬ stm (σ 30 0) b = 0 → wp_X3_catches_23 Q σ a b (5 * dry + 8 * wa w a b) (stm (σ 30 0) b)) ∧ (stm (σ 30 0) b = 0 → _)
  exact ⟨⟨by omega, by omega⟩, fun c => go (by omega), fun c => ⟨by omega, by omega, ⟨by omega, by omega⟩, fun y => go (by omega), fun y => q0 (fun u => u.2.1 (by omega))⟩⟩
theorem FiX_sta {σ : St} {f : Nat → Int} (h : FiX σ) : FiX (sta σ 34 0 f) := by
  unfold FiX
  rw [ra_ne (by decide), ra_ne (by decide), ra_ne (by decide)]
  exact h
theorem CatX_sta {σ : St} {f : Nat → Int} {w d : Int} : CatX (sta σ 34 0 f) w d = CatX σ w d := by
  unfold CatX
  rw [ra_ne (by decide), ra_ne (by decide), ra_ne (by decide)]
def lit (g : Nat → Int) : Nat → Int := sumv (fun c => if g c = 0 then 0 else 1)
theorem lit_up {g : Nat → Int} {b : Nat} {v : Int} (hg : g b = 0) (hv : ¬ v = 0) : ∀ n, lit (up g b v) n = lit g n + if b < n then 1 else 0 := by
  intro n
  induction n with
  | zero => rfl
  | succ n ih =>
    have e1 : lit (up g b v) (n + 1) = lit (up g b v) n + if up g b v n = 0 then 0 else 1 := rfl
    have e2 : lit g (n + 1) = lit g n + if g n = 0 then 0 else 1 := rfl
    rw [e1, e2, ih]
    by_cases e : n = b
    · rw [e, up_eq, if_neg hv, hg, if_neg (by omega), if_pos rfl, if_pos (by omega)]
    · rw [up_ne e]
      by_cases l : b < n
      · rw [if_pos l, if_pos (show b < n + 1 by omega)]
        omega
      · rw [if_neg l, if_neg (show ¬ b < n + 1 by omega)]
        omega
theorem up_m1 {g : Nat → Int} {b : Nat} {v : Int} : (fun c => up g b (v + 1) c - 1) = up (fun c => g c - 1) b v := by
  funext c
  unfold up
  split
  · omega
  · rfl
def Pc (R : Nat → Int) (C : Nat → Nat → Prop) (s : Int) (a d : Nat) : Nat → Nat → Prop := fun a' c => (a' < a ∨ (a' = a ∧ ∃ d', d' < d ∧ bes a d' = c)) ∧ R a' = s - 1 ∧ C a' c
theorem ki_loop {σ : St} {R : Nat → Int} {s a : Nat} {w dry base : Int} {Q : Int → St → Prop} (hX : FiX σ) (hw : 0 ≤ w ∧ w ≤ 3) (hd : 0 ≤ dry ∧ dry ≤ 9) (ha : a < 64) (hR : ∀ c, c < 64 → -1 ≤ R c ∧ R c < s) (hs : 1 ≤ s ∧ s ≤ 20) (hx : R a = (s : Int) - 1) (q : ∀ (g : Nat → Int) (m : Int), FI R s (Pc R (CatX σ w dry) s (a + 1) 0) (fun c => g c - 1) → base + m = lit g 64 → Q m (sta σ 34 0 g)) :
    ∀ (k d n : Nat) (g : Nat → Int) (m : Int), d + k = 4 → k < n → FI R s (Pc R (CatX σ w dry) s a d) (fun c => g c - 1) → base + m = lit g 64 → wp_X3_kindle_6 Q n (sta σ 34 0 g) a w ((s : Int) + 1) dry m d := by
  intro k
  induction k with
  | zero =>
    intro d n g m hk hn hf hm
    obtain ⟨n, rfl⟩ : ∃ n', n = n' + 1 := ⟨n - 1, by omega⟩
    unfold wp_X3_kindle_6
    refine ⟨⟨by omega, by omega⟩, fun _ => q g m (FI_mono hf (fun a' c hc => ?_)) hm, fun z => absurd (by omega) z⟩
    unfold Pc
    constructor
    · rintro ⟨y1 | ⟨-, d', y1, -⟩, y2, y3⟩
      · by_cases e : a' = a
        · rw [e] at y3
          obtain ⟨d', z1, z2⟩ := ap_bes ha hc y3.1
          exact ⟨Or.inr ⟨e, d', by omega, z2⟩, y2, by rw [e]; exact y3⟩
        · exact ⟨Or.inl (by omega), y2, y3⟩
      · omega
    · rintro ⟨y1 | ⟨y1, -⟩, y2⟩
      · exact ⟨Or.inl (by omega), y2⟩
      · exact ⟨Or.inl (by omega), y2⟩
  | succ k ih =>
    intro d n g m hk hn hf hm
    obtain ⟨n, rfl⟩ : ∃ n', n = n' + 1 := ⟨n - 1, by omega⟩
    have hd4 : d < 4 := by omega
    have nx := fun g m hf hm => ih (d + 1) n g m (by omega) (by omega) hf hm
    have bb := bes_b (d := d) ha
    have same : (∀ c : Nat, c < 64 → bes a d = c → ¬ CatX σ w dry a c) → wp_X3_kindle_68 (fun σ x1 x2 x3 x4 x5 x6 => wp_X3_kindle_6 Q n σ x1 x2 x3 x4 x5 x6) Q (sta σ 34 0 g) a w ((s : Int) + 1) dry m d := by
      intro hno
      refine nx g m (FI_mono hf (fun a' c hc => ?_)) hm
      unfold Pc
      constructor
      · rintro ⟨y1 | ⟨y0, d', y1, y2⟩, y3, y4⟩
        · exact ⟨Or.inl y1, y3, y4⟩
        · by_cases e : d' = d
          · rw [e] at y2
            rw [y0] at y4
            exact absurd y4 (hno c hc y2)
          · exact ⟨Or.inr ⟨y0, d', by omega, y2⟩, y3, y4⟩
      · rintro ⟨y1 | ⟨y0, d', y1, y2⟩, y3, y4⟩
        · exact ⟨Or.inl y1, y3, y4⟩
        · exact ⟨Or.inr ⟨y0, d', by omega, y2⟩, y3, y4⟩
    unfold wp_X3_kindle_6
    refine ⟨⟨by omega, by omega⟩, fun z => absurd z (by omega), fun _ => sx_beside ha hd4 ⟨⟨by omega, by omega⟩, fun y => same (fun c hc e => absurd e (by omega)), fun y => ?_⟩⟩
    obtain ⟨b, eb⟩ : ∃ b : Nat, bes a d = b := ⟨(bes a d).toNat, by omega⟩
    have hb : b < 64 := by omega
    rw [eb, Int.toNat_natCast, ra_eq]
    have r := hR b hb
    have gb : 0 ≤ g b ∧ g b ≤ 21 := by
      rcases hf b hb with ⟨-, z⟩ | ⟨-, z, -⟩ | ⟨-, z, -⟩ <;> dsimp only at z <;> omega
    have hap := bes_ap ha hd4 eb
    have P1 : CatX σ w dry a b → ∀ a' c, c < 64 → (Pc R (CatX σ w dry) s a (d + 1) a' c ↔ Pc R (CatX σ w dry) s a d a' c ∨ (a' = a ∧ c = b)) := by
      intro hC a' c hc
      unfold Pc
      constructor
      · rintro ⟨y1 | ⟨y0, d', y1, y2⟩, y3, y4⟩
        · exact Or.inl ⟨Or.inl y1, y3, y4⟩
        · by_cases e : d' = d
          · rw [e] at y2
            exact Or.inr ⟨y0, by omega⟩
          · exact Or.inl ⟨Or.inr ⟨y0, d', by omega, y2⟩, y3, y4⟩
      · rintro (⟨y1 | ⟨y0, d', y1, y2⟩, y3, y4⟩ | ⟨y0, y1⟩)
        · exact ⟨Or.inl y1, y3, y4⟩
        · exact ⟨Or.inr ⟨y0, d', by omega, y2⟩, y3, y4⟩
        · rw [y0, y1]
          exact ⟨Or.inr ⟨rfl, d, by omega, eb⟩, hx, hC⟩
    have no : ¬ CatX σ w dry a b → wp_X3_kindle_68 (fun σ x1 x2 x3 x4 x5 x6 => wp_X3_kindle_6 Q n σ x1 x2 x3 x4 x5 x6) Q (sta σ 34 0 g) a w ((s : Int) + 1) dry m d := fun h => same (fun c hc e => by rw [show c = b by omega]; exact h)
    refine ⟨by omega, by omega, ⟨by omega, by omega⟩, fun z => ?_, fun z => ?_⟩
    · by_cases hC : CatX σ w dry a b
      · exact nx g m (FI_seen hf (by show ¬ g b - 1 = -1; omega) (P1 hC)) hm
      · exact no hC
    · refine sx_windAid ha hd4 hw eb ?_
      refine sx_catches (FiX_sta hX) ha hb hd hap (fun hC => ⟨in1, fun u => absurd u (by decide), fun _ => ⟨by omega, by omega, fun s1 e1 => ?_⟩⟩) (fun hC => ⟨in0, fun _ => no (by rw [CatX_sta] at hC; exact hC), fun u => absurd rfl u⟩)
      rw [CatX_sta] at hC
      rw [st_stae] at e1
      rw [e1]
      refine nx _ (m + 1) ?_ ?_
      · rw [up_m1]
        exact FI_hit hf (by show g b - 1 = -1; omega) (P1 hC)
      · rw [lit_up z (by omega), if_pos hb]
        omega
