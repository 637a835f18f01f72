/-! cuts for forty years, of the class -/
def Yv (A : Nat) (l g kept : Int) : Nat → Nat → Nat → Nat → Int
  | 0, b0, b1, b2 => if kept ≤ (A : Int) - b0 - b1 - b2 then 0 else -1
  | d + 1, b0, b1, b2 => mxw (fv l g (fun t => Yv A l g kept d t b0 b1) (b2 + 1)) ((A - b0 - b1 - b2 + 1) * (b2 + 1))
theorem Yv_b {A : Nat} {l g kept : Int} (hg : 0 ≤ g ∧ g ≤ 60) : ∀ d b0 b1 b2, -1 ≤ Yv A l g kept d b0 b1 b2 ∧ Yv A l g kept d b0 b1 b2 ≤ 60 * (d : Int) := by
  intro d
  induction d with
  | zero =>
    intro b0 b1 b2
    unfold Yv
    split <;> omega
  | succ d ih =>
    intro b0 b1 b2
    unfold Yv
    refine mxw_b (by omega) _ (fun j _ => ?_)
    unfold fv wv
    have a := ih (j / (b2 + 1) + j % (b2 + 1)) b0 b1
    dsimp only
    split <;> omega
theorem stI_inj {c0 c1 c2 b0 b1 b2 : Nat} (h1 : c1 ≤ 12) (h2 : c2 ≤ 12) (h3 : b1 ≤ 12) (h4 : b2 ≤ 12) (e : stI c0 c1 c2 = stI b0 b1 b2) : c0 = b0 ∧ c1 = b1 ∧ c2 = b2 := by
  unfold stI at e
  have a1 : (169 * c0 + 13 * c1 + c2) / 169 = c0 := by omega
  have a2 : (169 * b0 + 13 * b1 + b2) / 169 = b0 := by omega
  have a3 : c0 = b0 := by rw [← a1, ← a2, e]
  have a4 : (13 * c1 + c2) / 13 = c1 := by omega
  have a5 : (13 * b1 + b2) / 13 = b1 := by omega
  have a6 : 13 * c1 + c2 = 13 * b1 + b2 := by omega
  have a7 : c1 = b1 := by rw [← a4, ← a5, a6]
  exact ⟨a3, a7, by omega⟩
def CB (s : Nat → Int) (p b0 b1 b2 : Nat) : Prop := (2 < p ∨ (b2 : Int) = s (2 - p)) ∧ (1 < p ∨ (b1 : Int) = s (1 - p)) ∧ (0 < p ∨ (b0 : Int) = s 0)
theorem CB_next {s : Nat → Int} {p b0 b1 b2 t : Nat} (h : CB s p b0 b1 b2) : CB s (p + 1) t b0 b1 := by
  obtain ⟨h1, h2, h3⟩ := h
  refine ⟨?_, ?_, Or.inl (by omega)⟩
  · rcases h2 with z | z
    · exact Or.inl (by omega)
    · refine Or.inr ?_
      rw [show 2 - (p + 1) = 1 - p by omega]
      exact z
  · rcases h3 with z | z
    · exact Or.inl (by omega)
    · by_cases c : 0 < p
      · exact Or.inl (by omega)
      · refine Or.inr ?_
        rw [show 1 - (p + 1) = 0 by omega]
        exact z
theorem sx_canBe {S : St} {p b0 b1 b2 : Nat} {Q : Int → St → Prop} (hb : b0 ≤ 12 ∧ b1 ≤ 12 ∧ b2 ≤ 12) (hp : p ≤ 8) (hs : ∀ i, i < 4 → inR (S 51 0 i)) (q1 : CB (S 51 0) p b0 b1 b2 → Q 1 S) (q0 : ¬ CB (S 51 0) p b0 b1 b2 → Q 0 S) : wp_X5_canBe S p b0 b1 b2 Q := by
  have c35 : (2 < p ∨ (b2 : Int) = S 51 0 (2 - p)) → (1 < p ∨ (b1 : Int) = S 51 0 (1 - p)) → wp_X5_canBe_35 Q S p b0 := by
    intro a1 a2
    unfold wp_X5_canBe_35
    rw [show Int.toNat 0 = 0 from rfl]
    exact ⟨⟨by omega, by omega⟩, fun z => q1 ⟨a1, a2, Or.inl (by omega)⟩, fun z => ⟨⟨by omega, by omega⟩, hs 0 (by decide), fun y => q0 (fun c => by rcases c.2.2 with w | w <;> omega), fun y => q1 ⟨a1, a2, Or.inr y⟩⟩⟩
  have c18 : (2 < p ∨ (b2 : Int) = S 51 0 (2 - p)) → wp_X5_canBe_18 Q S p b0 b1 := by
    intro a1
    unfold wp_X5_canBe_18
    refine ⟨⟨by omega, by omega⟩, fun z => c35 a1 (Or.inl (by omega)), fun z => ?_⟩
    rw [show Int.toNat (1 - (p : Int)) = 1 - p by omega]
    exact ⟨by omega, by omega, ⟨by omega, by omega⟩, hs _ (by omega), fun y => q0 (fun c => by rcases c.2.1 with w | w <;> omega), fun y => c35 a1 (Or.inr y)⟩
  unfold wp_X5_canBe
  refine ⟨⟨by omega, by omega⟩, fun z => c18 (Or.inl (by omega)), fun z => ?_⟩
  rw [show Int.toNat (2 - (p : Int)) = 2 - p by omega]
  exact ⟨by omega, by omega, ⟨by omega, by omega⟩, hs _ (by omega), fun y => q0 (fun c => by rcases c.1 with w | w <;> omega), fun y => c18 (Or.inr y)⟩
def HY (S : St) (A : Nat) (l g kept : Int) (s : Nat → Int) (p : Nat) : Prop := ∀ c0 c1 c2, c0 + c1 + c2 ≤ A → CB s p c0 c1 c2 → S 53 p (stX c0 c1 c2) = Yv A l g kept (8 - p) c0 c1 c2
def FrW (σ S : St) (p : Nat) : Prop := (∀ k, ¬ k = 5 → ¬ k = 53 → S k = σ k) ∧ (∀ i, ¬ i = 13 → ¬ i = 14 → S 5 0 i = σ 5 0 i) ∧ ∀ j, ¬ j = p → S 53 j = σ 53 j
def lexL (c0 c1 c2 b0 b1 b2 : Nat) : Prop := c0 < b0 ∨ (c0 = b0 ∧ (c1 < b1 ∨ (c1 = b1 ∧ c2 < b2)))
def DnX (S : St) (A : Nat) (l g kept : Int) (s : Nat → Int) (p b0 b1 b2 : Nat) : Prop := ∀ c0 c1 c2, c0 + c1 + c2 ≤ A → CB s p c0 c1 c2 → lexL c0 c1 c2 b0 b1 b2 → S 53 p (stX c0 c1 c2) = Yv A l g kept (8 - p) c0 c1 c2
theorem wp24_loop {σ : St} {A p b0 b1 : Nat} {l g kept : Int} {K : St → Int → Int → Int → Int → Int → Int → Int → Prop} {Q : St → Prop} (hA : A ≤ 12) (hp : p ≤ 8) (hl : 0 ≤ l ∧ l ≤ 60) (hg : 0 ≤ g ∧ g ≤ 60) (hk : 0 ≤ kept ∧ kept ≤ 12) (hs : ∀ i, i < 4 → inR (σ 51 0 i)) (hY : p < 8 → HY σ A l g kept (σ 51 0) (p + 1)) (hb : b0 + b1 ≤ A)
    (q : ∀ S, DnX S A l g kept (σ 51 0) p b0 (b1 + 1) 0 → FrW σ S p → K S p A l g kept b0 b1) :
    ∀ (k b2 n : Nat) (S : St), b2 + k = A - b0 - b1 + 1 → k < n → DnX S A l g kept (σ 51 0) p b0 b1 b2 → FrW σ S p → wp_X5_weighPeriod_24 K Q n S p A l g kept b0 b1 b2 := by
  intro k
  induction k with
  | zero =>
    intro b2 n S hk2 hn hD hF
    obtain ⟨n, rfl⟩ : ∃ n', n = n' + 1 := ⟨n - 1, by omega⟩
    unfold wp_X5_weighPeriod_24
    refine ⟨⟨by omega, by omega⟩, ⟨by omega, by omega⟩, fun _ => q S (fun c0 c1 c2 h1 h2 h3 => ?_) hF, fun z => absurd (by omega) z⟩
    unfold lexL at h3
    refine hD c0 c1 c2 h1 h2 ?_
    unfold lexL
    omega
  | succ k ih =>
    intro b2 n S hk2 hn hD hF
    obtain ⟨n, rfl⟩ : ∃ n', n = n' + 1 := ⟨n - 1, by omega⟩
    have hv : b0 + b1 + b2 ≤ A := by omega
    have s51 : S 51 = σ 51 := hF.1 51 (by decide) (by decide)
    have stb : stX b0 b1 b2 < 455 := stX_b (by omega)
    have put : ∀ (S1 : St) (v : Int), FrW σ S1 p → DnX S1 A l g kept (σ 51 0) p b0 b1 b2 → v = Yv A l g kept (8 - p) b0 b1 b2 → wp_X5_weighPeriod_24 K Q n (st S1 53 p (stX b0 b1 b2) v) p A l g kept b0 b1 ((b2 + 1 : Nat) : Int) := by
      intro S1 v hF1 hD1 ev
      refine ih (b2 + 1) n _ (by omega) (by omega) (fun c0 c1 c2 h1 h2 h3 => ?_) ⟨fun k z1 z2 => by rw [rs_ne z2]; exact hF1.1 k z1 z2, fun i z1 z2 => by rw [rs_ne (by decide)]; exact hF1.2.1 i z1 z2, fun j hj => by rw [rs_nej hj]; exact hF1.2.2 j hj⟩
      rw [rs_eq]
      by_cases e : c0 = b0 ∧ c1 = b1 ∧ c2 = b2
      · obtain ⟨e0, e1, e2⟩ := e
        subst e0 e1 e2
        rw [up_eq, ev]
      · have ne : ¬ stX c0 c1 c2 = stX b0 b1 b2 := fun z => e (stX_inj z)
        rw [up_ne ne]
        refine hD1 c0 c1 c2 h1 h2 ?_
        unfold lexL at h3 ⊢
        omega
    have skip : ¬ CB (σ 51 0) p b0 b1 b2 → wp_X5_weighPeriod_24 K Q n S p A l g kept b0 b1 ((b2 + 1 : Nat) : Int) := by
      intro nc
      refine ih (b2 + 1) n S (by omega) (by omega) (fun c0 c1 c2 h1 h2 h3 => ?_) hF
      refine hD c0 c1 c2 h1 h2 ?_
      unfold lexL at h3 ⊢
      by_cases e : c0 = b0 ∧ c1 = b1 ∧ c2 = b2
      · obtain ⟨e0, e1, e2⟩ := e
        rw [e0, e1, e2] at h2
        exact absurd h2 nc
      · omega
    unfold wp_X5_weighPeriod_24 wp_X5_weighPeriod_123
    try dsimp only
    rw [show ((b2 : Int) + 1) = ((b2 + 1 : Nat) : Int) by omega]
    refine ⟨⟨by omega, by omega⟩, ⟨by omega, by omega⟩, fun z => absurd z (by omega), fun _ => sx_state (by omega) ?_⟩
    try dsimp only
    rw [Int.toNat_natCast, Int.toNat_natCast]
    refine ⟨⟨by omega, by omega⟩, fun z => ?_, fun z => ?_⟩
    · refine sx_canBe (by omega) hp (by rw [s51]; exact hs) (fun cb => ⟨in1, fun c => absurd c (by decide), fun _ => ⟨by omega, by omega, ?_⟩⟩) (fun nc => ⟨in0, fun _ => skip (by rw [s51] at nc; exact nc), fun c => absurd rfl c⟩)
      rw [s51] at cb
      refine sx_bestCut (b3 := A - b0 - b1 - b2) (R := fun t => Yv A l g kept (8 - (p + 1)) t b0 b1) (by omega) (by omega) hA hl hg (fun t ht => ?_) (fun S1 _ hF1 => ⟨by omega, by omega, by omega, fun s20 e20 => ?_⟩)
      · have yb := Yv_b (A := A) (l := l) (kept := kept) hg (8 - (p + 1)) t b0 b1
        refine ⟨?_, by omega, by omega⟩
        rw [hF.2.2 (p + 1) (by omega)]
        exact hY (by omega) t b0 b1 (by omega) (CB_next cb)
      · rw [e20]
        refine put S1 _ ⟨fun k z1 z2 => by rw [hF1.1 k z1]; exact hF.1 k z1 z2, fun i z1 z2 => by rw [hF1.2 i z1 z2]; exact hF.2.1 i z1 z2, fun j hj => by rw [hF1.1 53 (by decide)]; exact hF.2.2 j hj⟩ (fun c0 c1 c2 h1 h2 h3 => by rw [hF1.1 53 (by decide)]; exact hD c0 c1 c2 h1 h2 h3) ?_
        rw [show 8 - p = (8 - (p + 1)) + 1 by omega]
        rfl
    · have ep : p = 8 := by omega
      unfold wp_X5_weighPeriod_81 wp_X5_weighPeriod_123
      rw [Int.toNat_natCast, show ((b2 : Int) + 1) = ((b2 + 1 : Nat) : Int) by omega]
      refine ⟨by omega, by omega, ⟨by omega, by omega⟩, ⟨by omega, by omega⟩, fun y => ⟨by omega, by omega, by omega, fun s4 e4 => ?_⟩, fun y => ⟨by omega, by omega, by omega, fun s4 e4 => ?_⟩⟩
      · rw [e4]
        refine put S (-1) hF hD ?_
        rw [ep]
        show -1 = if kept ≤ (A : Int) - b0 - b1 - b2 then 0 else -1
        rw [if_neg (by omega)]
      · rw [e4]
        refine put S 0 hF hD ?_
        rw [ep]
        show 0 = if kept ≤ (A : Int) - b0 - b1 - b2 then 0 else -1
        rw [if_pos (by omega)]
theorem wp12_loop {σ : St} {A p b0 : Nat} {l g kept : Int} {K : St → Int → Int → Int → Int → Int → Int → Prop} {Q : St → Prop} (hA : A ≤ 12) (hp : p ≤ 8) (hl : 0 ≤ l ∧ l ≤ 60) (hg : 0 ≤ g ∧ g ≤ 60) (hk : 0 ≤ kept ∧ kept ≤ 12) (hs : ∀ i, i < 4 → inR (σ 51 0 i)) (hY : p < 8 → HY σ A l g kept (σ 51 0) (p + 1)) (hb : b0 ≤ A)
    (q : ∀ S, DnX S A l g kept (σ 51 0) p (b0 + 1) 0 0 → FrW σ S p → K S p A l g kept b0) :
    ∀ (k b1 n : Nat) (S : St), b1 + k = A - b0 + 1 → k < n → DnX S A l g kept (σ 51 0) p b0 b1 0 → FrW σ S p → wp_X5_weighPeriod_12 K Q n S p A l g kept b0 b1 := by
  intro k
  induction k with
  | zero =>
    intro b1 n S hk2 hn hD hF
    obtain ⟨n, rfl⟩ : ∃ n', n = n' + 1 := ⟨n - 1, by omega⟩
    unfold wp_X5_weighPeriod_12
    refine ⟨⟨by omega, by omega⟩, ⟨by omega, by omega⟩, fun _ => q S (fun c0 c1 c2 h1 h2 h3 => ?_) hF, fun z => absurd (by omega) z⟩
    unfold lexL at h3
    refine hD c0 c1 c2 h1 h2 ?_
    unfold lexL
    omega
  | succ k ih =>
    intro b1 n S hk2 hn hD hF
    obtain ⟨n, rfl⟩ : ∃ n', n = n' + 1 := ⟨n - 1, by omega⟩
    unfold wp_X5_weighPeriod_12
    refine ⟨⟨by omega, by omega⟩, ⟨by omega, by omega⟩, fun z => absurd z (by omega), fun _ => ⟨A - b0 - b1 + 2, ?_⟩⟩
    refine wp24_loop hA hp hl hg hk hs hY (by omega) (fun S' hD' hF' => ?_) (A - b0 - b1 + 1) 0 _ S (by omega) (by omega) hD hF
    unfold wp_X5_weighPeriod_129
    rw [show ((b1 : Int) + 1) = ((b1 + 1 : Nat) : Int) by omega]
    exact ih (b1 + 1) n S' (by omega) (by omega) hD' hF'
theorem wp3_loop {σ : St} {A p : Nat} {l g kept : Int} {Q : St → Prop} (hA : A ≤ 12) (hp : p ≤ 8) (hl : 0 ≤ l ∧ l ≤ 60) (hg : 0 ≤ g ∧ g ≤ 60) (hk : 0 ≤ kept ∧ kept ≤ 12) (hs : ∀ i, i < 4 → inR (σ 51 0 i)) (hY : p < 8 → HY σ A l g kept (σ 51 0) (p + 1))
    (q : ∀ S, HY S A l g kept (σ 51 0) p → FrW σ S p → Q S) :
    ∀ (k b0 n : Nat) (S : St), b0 + k = A + 1 → k < n → DnX S A l g kept (σ 51 0) p b0 0 0 → FrW σ S p → wp_X5_weighPeriod_3 Q n S p A l g kept b0 := by
  intro k
  induction k with
  | zero =>
    intro b0 n S hk2 hn hD hF
    obtain ⟨n, rfl⟩ : ∃ n', n = n' + 1 := ⟨n - 1, by omega⟩
    unfold wp_X5_weighPeriod_3
    refine ⟨⟨by omega, by omega⟩, ⟨by omega, by omega⟩, fun _ => q S (fun c0 c1 c2 h1 h2 => ?_) hF, fun z => absurd (by omega) z⟩
    refine hD c0 c1 c2 h1 h2 ?_
    unfold lexL
    omega
  | succ k ih =>
    intro b0 n S hk2 hn hD hF
    obtain ⟨n, rfl⟩ : ∃ n', n = n' + 1 := ⟨n - 1, by omega⟩
    unfold wp_X5_weighPeriod_3
    refine ⟨⟨by omega, by omega⟩, ⟨by omega, by omega⟩, fun z => absurd z (by omega), fun _ => ⟨A - b0 + 2, ?_⟩⟩
    refine wp12_loop hA hp hl hg hk hs hY (by omega) (fun S' hD' hF' => ?_) (A - b0 + 1) 0 _ S (by omega) (by omega) hD hF
    unfold wp_X5_weighPeriod_135
    rw [show ((b0 : Int) + 1) = ((b0 + 1 : Nat) : Int) by omega]
    exact ih (b0 + 1) n S' (by omega) (by omega) hD' hF'
def FrP (σ S : St) : Prop := (∀ k, ¬ k = 5 → ¬ k = 53 → S k = σ k) ∧ ∀ i, ¬ i = 13 → ¬ i = 14 → S 5 0 i = σ 5 0 i
theorem pc33_loop {σ : St} {A : Nat} {l g kept : Int} {K : St → Int → Int → Int → Prop} {Q : Int → St → Prop} (hA : A ≤ 12) (hl : 0 ≤ l ∧ l ≤ 60) (hg : 0 ≤ g ∧ g ≤ 60) (hk : 0 ≤ kept ∧ kept ≤ 12) (hs : ∀ i, i < 4 → inR (σ 51 0 i)) (q : ∀ S, (∀ p, p ≤ 8 → HY S A l g kept (σ 51 0) p) → FrP σ S → K S l g A) :
    ∀ (k e n : Nat) (S : St), e + k = 9 → k < n → (∀ p, p ≤ 8 → 8 < p + e → HY S A l g kept (σ 51 0) p) → FrP σ S → wp_X5_planCuts_33 K Q n S l g kept A (8 - (e : Int)) := by
  intro k
  induction k with
  | zero =>
    intro e n S hk2 hn hH hF
    obtain ⟨n, rfl⟩ : ∃ n', n = n' + 1 := ⟨n - 1, by omega⟩
    have e1 : e = 9 := by omega
    subst e1
    unfold wp_X5_planCuts_33
    exact ⟨⟨by decide, by decide⟩, fun _ => q S (fun p hp => hH p hp (by omega)) hF, fun z => absurd (by decide) z⟩
  | succ k ih =>
    intro e n S hk2 hn hH hF
    obtain ⟨n, rfl⟩ : ∃ n', n = n' + 1 := ⟨n - 1, by omega⟩
    obtain ⟨p, ep⟩ : ∃ p : Nat, p = 8 - e := ⟨_, rfl⟩
    have s51 : S 51 = σ 51 := hF.1 51 (by decide) (by decide)
    unfold wp_X5_planCuts_33 wp_X5_weighPeriod
    rw [show (8 - (e : Int)) = (p : Int) by omega]
    refine ⟨⟨by omega, by omega⟩, fun z => absurd z (by omega), fun _ => ⟨A + 2, ?_⟩⟩
    refine wp3_loop (σ := S) hA (by omega) hl hg hk (by rw [s51]; exact hs) (fun z => by rw [s51]; exact hH (p + 1) (by omega) (by omega)) (fun S' hY' hF' => ?_) (A + 1) 0 (A + 2) S (by omega) (by omega) (fun c0 c1 c2 _ _ h => ?_) ⟨fun _ _ _ => rfl, fun _ _ _ => rfl, fun _ _ => rfl⟩
    · rw [show ((p : Int) + -1) = 8 - ((e + 1 : Nat) : Int) by omega]
      refine ih (e + 1) n S' (by omega) (by omega) (fun p' h1 h2 => ?_) ⟨fun k z1 z2 => by rw [hF'.1 k z1 z2]; exact hF.1 k z1 z2, fun i z1 z2 => by rw [hF'.2.1 i z1 z2]; exact hF.2 i z1 z2⟩
      by_cases c : p' = p
      · rw [c]
        rw [s51] at hY'
        exact hY'
      · intro c0 c1 c2 g1 g2
        rw [hF'.2.2 p' c]
        exact hH p' h1 (by omega) c0 c1 c2 g1 g2
    · unfold lexL at h
      exact absurd h (by omega)
/-! the cuts that are kept -/
def pst (js : Nat → Nat) (s0 s1 s2 : Nat) : Nat → Nat × Nat × Nat
  | 0 => (s0, s1, s2)
  | p + 1 => (js p / ((pst js s0 s1 s2 p).2.2 + 1) + js p % ((pst js s0 s1 s2 p).2.2 + 1), (pst js s0 s1 s2 p).1, (pst js s0 s1 s2 p).2.1)
def PthOK (A : Nat) (l g kept : Int) (js : Nat → Nat) (s0 s1 s2 m : Nat) : Prop := ∀ p, p < m → FM (fv l g (fun t => Yv A l g kept (8 - (p + 1)) t (pst js s0 s1 s2 p).1 (pst js s0 s1 s2 p).2.1) ((pst js s0 s1 s2 p).2.2 + 1)) ((A - (pst js s0 s1 s2 p).1 - (pst js s0 s1 s2 p).2.1 - (pst js s0 s1 s2 p).2.2 + 1) * ((pst js s0 s1 s2 p).2.2 + 1)) (js p)
theorem pst_congr {js js' : Nat → Nat} {s0 s1 s2 : Nat} : ∀ m, (∀ p, p < m → js' p = js p) → pst js' s0 s1 s2 m = pst js s0 s1 s2 m := by
  intro m
  induction m with
  | zero => intro _; rfl
  | succ m ih =>
    intro h
    show (js' m / ((pst js' s0 s1 s2 m).2.2 + 1) + js' m % ((pst js' s0 s1 s2 m).2.2 + 1), (pst js' s0 s1 s2 m).1, (pst js' s0 s1 s2 m).2.1) = (js m / ((pst js s0 s1 s2 m).2.2 + 1) + js m % ((pst js s0 s1 s2 m).2.2 + 1), (pst js s0 s1 s2 m).1, (pst js s0 s1 s2 m).2.1)
    rw [ih (fun p hp => h p (by omega)), h m (by omega)]
/-- a step on the way: the next state is one, and its yield isn't none -/
theorem step_ok {A p b0 b1 b2 j : Nat} {l g kept : Int} (hp : p < 8) (hv : b0 + b1 + b2 ≤ A) (hn : ¬ Yv A l g kept (8 - p) b0 b1 b2 = -1) (h : FM (fv l g (fun t => Yv A l g kept (8 - (p + 1)) t b0 b1) (b2 + 1)) ((A - b0 - b1 - b2 + 1) * (b2 + 1)) j) : j / (b2 + 1) ≤ A - b0 - b1 - b2 ∧ j % (b2 + 1) ≤ b2 ∧ ¬ Yv A l g kept (8 - (p + 1)) (j / (b2 + 1) + j % (b2 + 1)) b0 b1 = -1 := by
  obtain ⟨h1, h2, -⟩ := h
  have a : j / (b2 + 1) < A - b0 - b1 - b2 + 1 := Nat.div_lt_of_lt_mul (by rw [Nat.mul_comm]; exact h1)
  have b : j % (b2 + 1) < b2 + 1 := Nat.mod_lt _ (by omega)
  refine ⟨by omega, by omega, fun z => hn ?_⟩
  have e : Yv A l g kept (8 - p) b0 b1 b2 = mxw (fv l g (fun t => Yv A l g kept (8 - (p + 1)) t b0 b1) (b2 + 1)) ((A - b0 - b1 - b2 + 1) * (b2 + 1)) := by
    rw [show 8 - p = (8 - (p + 1)) + 1 by omega]
    rfl
  rw [e, ← h2]
  unfold fv wv
  rw [if_neg (fun c => c.2.2 z)]
theorem kc27_loop {σ : St} {A s0 s1 s2 : Nat} {l g kept : Int} {K Q : St → Prop} (hA : A ≤ 12) (hl : 0 ≤ l ∧ l ≤ 60) (hg : 0 ≤ g ∧ g ≤ 60) (hY : ∀ p, p ≤ 8 → HY σ A l g kept (σ 51 0) p) (q : ∀ S js, PthOK A l g kept js s0 s1 s2 8 → (∀ p, p < 8 → S 54 0 (2 * p) = ((js p / ((pst js s0 s1 s2 p).2.2 + 1) : Nat) : Int) ∧ S 54 0 (2 * p + 1) = ((js p % ((pst js s0 s1 s2 p).2.2 + 1) : Nat) : Int)) → (∀ k, ¬ k = 5 → ¬ k = 54 → S k = σ k) → (∀ i, ¬ i = 13 → ¬ i = 14 → S 5 0 i = σ 5 0 i) → K S) :
    ∀ (k p n : Nat) (S : St) (js : Nat → Nat), p + k = 8 → k < n → PthOK A l g kept js s0 s1 s2 p → (pst js s0 s1 s2 p).1 + (pst js s0 s1 s2 p).2.1 + (pst js s0 s1 s2 p).2.2 ≤ A → (p < 8 → CB (σ 51 0) p (pst js s0 s1 s2 p).1 (pst js s0 s1 s2 p).2.1 (pst js s0 s1 s2 p).2.2) → ¬ Yv A l g kept (8 - p) (pst js s0 s1 s2 p).1 (pst js s0 s1 s2 p).2.1 (pst js s0 s1 s2 p).2.2 = -1 → (∀ p', p' < p → S 54 0 (2 * p') = ((js p' / ((pst js s0 s1 s2 p').2.2 + 1) : Nat) : Int) ∧ S 54 0 (2 * p' + 1) = ((js p' % ((pst js s0 s1 s2 p').2.2 + 1) : Nat) : Int)) → (∀ k, ¬ k = 5 → ¬ k = 54 → S k = σ k) → (∀ i, ¬ i = 13 → ¬ i = 14 → S 5 0 i = σ 5 0 i) → wp_X5_keepCuts_27 K Q n S A l g (pst js s0 s1 s2 p).1 (pst js s0 s1 s2 p).2.1 (pst js s0 s1 s2 p).2.2 p := by
  intro k
  induction k with
  | zero =>
    intro p n S js hk hn hP hv hc hy h54 hF1 hF2
    obtain ⟨n, rfl⟩ : ∃ n', n = n' + 1 := ⟨n - 1, by omega⟩
    have e : p = 8 := by omega
    subst e
    unfold wp_X5_keepCuts_27
    exact ⟨⟨by decide, by decide⟩, fun _ => q S js hP h54 hF1 hF2, fun z => absurd (by decide) z⟩
  | succ k ih =>
    intro p n S js hk hn hP hv hc hy h54 hF1 hF2
    obtain ⟨n, rfl⟩ : ∃ n', n = n' + 1 := ⟨n - 1, by omega⟩
    have hc := hc (by omega)
    obtain ⟨b0, e0⟩ : ∃ b0, b0 = (pst js s0 s1 s2 p).1 := ⟨_, rfl⟩
    obtain ⟨b1, e1⟩ : ∃ b1, b1 = (pst js s0 s1 s2 p).2.1 := ⟨_, rfl⟩
    obtain ⟨b2, e2⟩ : ∃ b2, b2 = (pst js s0 s1 s2 p).2.2 := ⟨_, rfl⟩
    rw [← e0, ← e1, ← e2] at hv hc hy ⊢
    unfold wp_X5_keepCuts_27
    refine ⟨⟨by omega, by omega⟩, fun z => absurd z (by omega), fun _ => ?_⟩
    refine sx_bestCut (b3 := A - b0 - b1 - b2) (R := fun t => Yv A l g kept (8 - (p + 1)) t b0 b1) (by omega) (by omega) hA hl hg (fun t ht => ?_) (fun S1 hB hFb => ?_)
    · have yb := Yv_b (A := A) (l := l) (kept := kept) hg (8 - (p + 1)) t b0 b1
      refine ⟨?_, by omega, by omega⟩
      rw [hF1 53 (by decide) (by decide)]
      exact hY (p + 1) (by omega) t b0 b1 (by omega) (CB_next hc)
    · have eY : Yv A l g kept (8 - p) b0 b1 b2 = mxw (fv l g (fun t => Yv A l g kept (8 - (p + 1)) t b0 b1) (b2 + 1)) ((A - b0 - b1 - b2 + 1) * (b2 + 1)) := by
        rw [show 8 - p = (8 - (p + 1)) + 1 by omega]
        rfl
      obtain ⟨j, j1, j2, j3, j4, j5⟩ := hB.2 (by rw [← eY]; exact hy)
      have fm : FM (fv l g (fun t => Yv A l g kept (8 - (p + 1)) t b0 b1) (b2 + 1)) ((A - b0 - b1 - b2 + 1) * (b2 + 1)) j := ⟨j1, j4, j5⟩
      obtain ⟨o1, o2, o3⟩ := step_ok (by omega) hv hy fm
      rw [show Int.toNat (2 * (p : Int)) = 2 * p by omega, show Int.toNat (2 * (p : Int) + 1) = 2 * p + 1 by omega]
      refine ⟨by omega, by omega, fun s9 e9 => ?_⟩
      rw [j2] at e9
      have n14 : s9 5 0 14 = ((j % (b2 + 1) : Nat) : Int) := by rw [e9, rs_ne (by decide), j3]
      rw [n14]
      refine ⟨by omega, by omega, fun s12 e12 v13 e13 => ?_⟩
      have k5 : s12 5 = S1 5 := by rw [e12, rs_ne (by decide), e9, rs_ne (by decide)]
      rw [k5, j2, j3] at e13
      have js' : ∀ i, i < p → (fun i => if i = p then j else js i) i = js i := fun i hi => if_neg (by omega)
      have ps : ∀ i, i ≤ p → pst (fun i => if i = p then j else js i) s0 s1 s2 i = pst js s0 s1 s2 i := fun i hi => pst_congr i (fun p' hp' => js' p' (by omega))
      have jp : (fun i => if i = p then j else js i) p = j := if_pos rfl
      have pn : pst (fun i => if i = p then j else js i) s0 s1 s2 (p + 1) = (j / (b2 + 1) + j % (b2 + 1), b0, b1) := by
        show ((fun i => if i = p then j else js i) p / ((pst (fun i => if i = p then j else js i) s0 s1 s2 p).2.2 + 1) + (fun i => if i = p then j else js i) p % ((pst (fun i => if i = p then j else js i) s0 s1 s2 p).2.2 + 1), (pst (fun i => if i = p then j else js i) s0 s1 s2 p).1, (pst (fun i => if i = p then j else js i) s0 s1 s2 p).2.1) = _
        rw [ps p (Nat.le_refl _), jp, ← e0, ← e1, ← e2]
      have nx := ih (p + 1) n s12 (fun i => if i = p then j else js i) (by omega) (by omega)
      rw [pn] at nx
      dsimp only at nx
      rw [show ((p : Int) + 1) = ((p + 1 : Nat) : Int) by omega, e13, show ((j / (b2 + 1) : Nat) : Int) + ((j % (b2 + 1) : Nat) : Int) = ((j / (b2 + 1) + j % (b2 + 1) : Nat) : Int) by omega]
      refine nx (fun i hi => ?_) (by omega) (fun _ => CB_next hc) o3 (fun i hi => ?_) (fun k z1 z2 => by rw [e12, rs_ne z2, e9, rs_ne z2, hFb.1 k z1]; exact hF1 k z1 z2) (fun i z1 z2 => by rw [k5, hFb.2 i z1 z2]; exact hF2 i z1 z2)
      · rw [ps i (by omega)]
        dsimp only
        by_cases c : i = p
        · subst c
          rw [if_pos rfl, ← e0, ← e1, ← e2]
          exact fm
        · rw [if_neg c]
          exact hP i (by omega)
      · rw [ps i (by omega), e12, rs_eq, e9, rs_eq]
        by_cases c : i = p
        · subst c
          rw [if_pos rfl, ← e2, up_ne (by omega), up_eq, up_eq]
          exact ⟨rfl, rfl⟩
        · rw [if_neg c, up_ne (by omega), up_ne (by omega), up_ne (by omega), up_ne (by omega), hFb.1 54 (by decide)]
          exact h54 i (by omega)
