/-! the call forty -/
theorem pm25_loop {σ : St} {A b0 b1 : Nat} {l g kept : Int} {K : St → Int → Int → Int → Prop} {Q : St → Prop} (hA : A ≤ 12) (h94 : σ 12 0 94 = A) (hk : 0 ≤ kept ∧ kept ≤ 12) (hb : b0 + b1 ≤ A) (q : ∀ f, DnM f A l g kept 8 b0 (b1 + 1) 0 → K (sta σ 149 0 f) kept b0 b1) :
    ∀ (k b2 n : Nat) (f : Nat → Int), b2 + k = A - b0 - b1 + 1 → k < n → DnM f A l g kept 8 b0 b1 b2 → wp_X12_plansCuts_25 K Q n (sta σ 149 0 f) kept b0 b1 b2 := by
  intro k
  induction k with
  | zero =>
    intro b2 n f hk2 hn hD
    obtain ⟨n, rfl⟩ : ∃ n', n = n' + 1 := ⟨n - 1, by omega⟩
    unfold wp_X12_plansCuts_25
    rw [ra_ne (show ¬ 12 = 149 by decide), h94]
    refine ⟨⟨by omega, by omega⟩, ⟨by omega, by omega⟩, fun _ => q f (fun c0 c1 c2 h1 h3 => ?_), fun z => absurd (by omega) z⟩
    unfold lexL at h3
    refine hD c0 c1 c2 h1 ?_
    unfold lexL
    omega
  | succ k ih =>
    intro b2 n f hk2 hn hD
    obtain ⟨n, rfl⟩ : ∃ n', n = n' + 1 := ⟨n - 1, by omega⟩
    have stb : stI b0 b1 b2 < 2197 := by unfold stI; omega
    unfold wp_X12_plansCuts_25 wp_X12_stateOf wp_X12_plansCuts_73
    dsimp only
    rw [ra_ne (show ¬ 12 = 149 by decide), h94, show 169 * (b0 : Int) + 13 * (b1 : Int) + b2 = (stI b0 b1 b2 : Nat) by unfold stI; omega, show Int.toNat (17576 + ((stI b0 b1 b2 : Nat) : Int)) = 2197 * 8 + stI b0 b1 b2 by omega, show ((b2 : Int) + 1) = ((b2 + 1 : Nat) : Int) by omega]
    refine ⟨⟨by omega, by omega⟩, ⟨by omega, by omega⟩, fun z => absurd z (by omega), fun _ => ⟨⟨by omega, by omega⟩, ⟨by omega, by omega⟩, fun z => ⟨by omega, by omega, fun s1 e1 => ?_⟩, fun z => ⟨by omega, by omega, fun s1 e1 => ?_⟩⟩⟩
    · rw [st_stae] at e1
      rw [e1]
      refine ih (b2 + 1) n _ (by omega) (by omega) (DnM_put hA (by omega) hD ?_)
      show -1 = if kept ≤ (A : Int) - b0 - b1 - b2 then 0 else -1
      rw [if_neg (by omega)]
    · rw [st_stae] at e1
      rw [e1]
      refine ih (b2 + 1) n _ (by omega) (by omega) (DnM_put hA (by omega) hD ?_)
      show 0 = if kept ≤ (A : Int) - b0 - b1 - b2 then 0 else -1
      rw [if_pos (by omega)]
theorem pm12_loop {σ : St} {A b0 : Nat} {l g kept : Int} {K : St → Int → Int → Prop} {Q : St → Prop} (hA : A ≤ 12) (h94 : σ 12 0 94 = A) (hk : 0 ≤ kept ∧ kept ≤ 12) (hb : b0 ≤ A) (q : ∀ f, DnM f A l g kept 8 (b0 + 1) 0 0 → K (sta σ 149 0 f) kept b0) :
    ∀ (k b1 n : Nat) (f : Nat → Int), b1 + k = A - b0 + 1 → k < n → DnM f A l g kept 8 b0 b1 0 → wp_X12_plansCuts_12 K Q n (sta σ 149 0 f) kept b0 b1 := by
  intro k
  induction k with
  | zero =>
    intro b1 n f hk2 hn hD
    obtain ⟨n, rfl⟩ : ∃ n', n = n' + 1 := ⟨n - 1, by omega⟩
    unfold wp_X12_plansCuts_12
    rw [ra_ne (show ¬ 12 = 149 by decide), h94]
    refine ⟨⟨by omega, by omega⟩, ⟨by omega, by omega⟩, fun _ => q f (fun c0 c1 c2 h1 h3 => ?_), fun z => absurd (by omega) z⟩
    unfold lexL at h3
    refine hD c0 c1 c2 h1 ?_
    unfold lexL
    omega
  | succ k ih =>
    intro b1 n f hk2 hn hD
    obtain ⟨n, rfl⟩ : ∃ n', n = n' + 1 := ⟨n - 1, by omega⟩
    unfold wp_X12_plansCuts_12
    rw [ra_ne (show ¬ 12 = 149 by decide), h94]
    refine ⟨⟨by omega, by omega⟩, ⟨by omega, by omega⟩, fun z => absurd z (by omega), fun _ => ⟨A - b0 - b1 + 2, ?_⟩⟩
    refine pm25_loop (l := l) (g := g) hA h94 hk (by omega) (fun f' hD' => ?_) (A - b0 - b1 + 1) 0 _ f (by omega) (by omega) hD
    unfold wp_X12_plansCuts_80
    rw [show ((b1 : Int) + 1) = ((b1 + 1 : Nat) : Int) by omega]
    exact ih (b1 + 1) n f' (by omega) (by omega) hD'
theorem pm2_loop {σ : St} {A : Nat} {l g kept : Int} {K Q : St → Prop} (hA : A ≤ 12) (h94 : σ 12 0 94 = A) (hk : 0 ≤ kept ∧ kept ≤ 12) (q : ∀ f, HM f A l g kept 8 → K (sta σ 149 0 f)) :
    ∀ (k b0 n : Nat) (f : Nat → Int), b0 + k = A + 1 → k < n → DnM f A l g kept 8 b0 0 0 → wp_X12_plansCuts_2 K Q n (sta σ 149 0 f) kept b0 := by
  intro k
  induction k with
  | zero =>
    intro b0 n f hk2 hn hD
    obtain ⟨n, rfl⟩ : ∃ n', n = n' + 1 := ⟨n - 1, by omega⟩
    unfold wp_X12_plansCuts_2
    rw [ra_ne (show ¬ 12 = 149 by decide), h94]
    refine ⟨⟨by omega, by omega⟩, ⟨by omega, by omega⟩, fun _ => q f (fun c0 c1 c2 h1 => ?_), fun z => absurd (by omega) z⟩
    refine hD c0 c1 c2 h1 ?_
    unfold lexL
    omega
  | succ k ih =>
    intro b0 n f hk2 hn hD
    obtain ⟨n, rfl⟩ : ∃ n', n = n' + 1 := ⟨n - 1, by omega⟩
    unfold wp_X12_plansCuts_2
    rw [ra_ne (show ¬ 12 = 149 by decide), h94]
    refine ⟨⟨by omega, by omega⟩, ⟨by omega, by omega⟩, fun z => absurd z (by omega), fun _ => ⟨A - b0 + 2, ?_⟩⟩
    refine pm12_loop (l := l) (g := g) hA h94 hk (by omega) (fun f' hD' => ?_) (A - b0 + 1) 0 _ f (by omega) (by omega) hD
    unfold wp_X12_plansCuts_86
    rw [show ((b0 : Int) + 1) = ((b0 + 1 : Nat) : Int) by omega]
    exact ih (b0 + 1) n f' (by omega) (by omega) hD'
/-- every period behind p stands -/
def HMs (f : Nat → Int) (A : Nat) (l g kept : Int) (p : Nat) : Prop := ∀ p', p < p' → p' ≤ 8 → HM f A l g kept p'
theorem pm126_loop {σ : St} {A p b0 b1 : Nat} {l g kept : Int} {K : St → Int → Int → Int → Prop} {Q : St → Prop} (hA : A ≤ 12) (hp : p < 8) (h94 : σ 12 0 94 = A) (h95 : σ 12 0 95 = l) (h96 : σ 12 0 96 = g) (hl : 0 ≤ l ∧ l ≤ 60) (hg : 0 ≤ g ∧ g ≤ 60) (hb : b0 + b1 ≤ A) (q : ∀ f, DnM f A l g kept p b0 (b1 + 1) 0 → HMs f A l g kept p → K (sta σ 149 0 f) p b0 b1) :
    ∀ (k b2 n : Nat) (f : Nat → Int), b2 + k = A - b0 - b1 + 1 → k < n → DnM f A l g kept p b0 b1 b2 → HMs f A l g kept p → wp_X12_plansCuts_126 K Q n (sta σ 149 0 f) p b0 b1 b2 := by
  intro k
  induction k with
  | zero =>
    intro b2 n f hk2 hn hD hH
    obtain ⟨n, rfl⟩ : ∃ n', n = n' + 1 := ⟨n - 1, by omega⟩
    unfold wp_X12_plansCuts_126
    rw [ra_ne (show ¬ 12 = 149 by decide), h94]
    refine ⟨⟨by omega, by omega⟩, ⟨by omega, by omega⟩, fun _ => q f (fun c0 c1 c2 h1 h3 => ?_) hH, fun z => absurd (by omega) z⟩
    unfold lexL at h3
    refine hD c0 c1 c2 h1 ?_
    unfold lexL
    omega
  | succ k ih =>
    intro b2 n f hk2 hn hD hH
    obtain ⟨n, rfl⟩ : ∃ n', n = n' + 1 := ⟨n - 1, by omega⟩
    have stb : stI b0 b1 b2 < 2197 := by unfold stI; omega
    have r12 : sta σ 149 0 f 12 = σ 12 := ra_ne (by decide)
    unfold wp_X12_plansCuts_126 wp_X12_stateOf
    dsimp only
    rw [r12, h94, show 169 * (b0 : Int) + 13 * (b1 : Int) + b2 = (stI b0 b1 b2 : Nat) by unfold stI; omega, show Int.toNat (2197 * (p : Int) + ((stI b0 b1 b2 : Nat) : Int)) = 2197 * p + stI b0 b1 b2 by omega, show ((b2 : Int) + 1) = ((b2 + 1 : Nat) : Int) by omega]
    refine ⟨⟨by omega, by omega⟩, ⟨by omega, by omega⟩, fun z => absurd z (by omega), fun _ => ?_⟩
    refine sm_bestCut (A := A) (l := l) (g := g) (kept := kept) hp (by omega) hA (by rw [r12]; exact h94) (by rw [r12]; exact h95) (by rw [r12]; exact h96) hl hg (fun c0 c1 c2 hc => by rw [ra_eq]; exact hH (p + 1) (by omega) (by omega) c0 c1 c2 hc) ⟨by omega, by omega, fun s1 e1 => ?_⟩
    rw [st_stae] at e1
    rw [e1]
    exact ih (b2 + 1) n _ (by omega) (by omega) (DnM_put hA (by omega) hD rfl) (fun p' z1 z2 => HM_put hA (by omega) (by omega) (hH p' z1 z2))
theorem pm112_loop {σ : St} {A p b0 : Nat} {l g kept : Int} {K : St → Int → Int → Prop} {Q : St → Prop} (hA : A ≤ 12) (hp : p < 8) (h94 : σ 12 0 94 = A) (h95 : σ 12 0 95 = l) (h96 : σ 12 0 96 = g) (hl : 0 ≤ l ∧ l ≤ 60) (hg : 0 ≤ g ∧ g ≤ 60) (hb : b0 ≤ A) (q : ∀ f, DnM f A l g kept p (b0 + 1) 0 0 → HMs f A l g kept p → K (sta σ 149 0 f) p b0) :
    ∀ (k b1 n : Nat) (f : Nat → Int), b1 + k = A - b0 + 1 → k < n → DnM f A l g kept p b0 b1 0 → HMs f A l g kept p → wp_X12_plansCuts_112 K Q n (sta σ 149 0 f) p b0 b1 := by
  intro k
  induction k with
  | zero =>
    intro b1 n f hk2 hn hD hH
    obtain ⟨n, rfl⟩ : ∃ n', n = n' + 1 := ⟨n - 1, by omega⟩
    unfold wp_X12_plansCuts_112
    rw [ra_ne (show ¬ 12 = 149 by decide), h94]
    refine ⟨⟨by omega, by omega⟩, ⟨by omega, by omega⟩, fun _ => q f (fun c0 c1 c2 h1 h3 => ?_) hH, fun z => absurd (by omega) z⟩
    unfold lexL at h3
    refine hD c0 c1 c2 h1 ?_
    unfold lexL
    omega
  | succ k ih =>
    intro b1 n f hk2 hn hD hH
    obtain ⟨n, rfl⟩ : ∃ n', n = n' + 1 := ⟨n - 1, by omega⟩
    unfold wp_X12_plansCuts_112
    rw [ra_ne (show ¬ 12 = 149 by decide), h94]
    refine ⟨⟨by omega, by omega⟩, ⟨by omega, by omega⟩, fun z => absurd z (by omega), fun _ => ⟨A - b0 - b1 + 2, ?_⟩⟩
    refine pm126_loop hA hp h94 h95 h96 hl hg (by omega) (fun f' hD' hH' => ?_) (A - b0 - b1 + 1) 0 _ f (by omega) (by omega) hD hH
    unfold wp_X12_plansCuts_175
    rw [show ((b1 : Int) + 1) = ((b1 + 1 : Nat) : Int) by omega]
    exact ih (b1 + 1) n f' (by omega) (by omega) hD' hH'
theorem pm101_loop {σ : St} {A p : Nat} {l g kept : Int} {K : St → Int → Prop} {Q : St → Prop} (hA : A ≤ 12) (hp : p < 8) (h94 : σ 12 0 94 = A) (h95 : σ 12 0 95 = l) (h96 : σ 12 0 96 = g) (hl : 0 ≤ l ∧ l ≤ 60) (hg : 0 ≤ g ∧ g ≤ 60) (q : ∀ f, HM f A l g kept p → HMs f A l g kept p → K (sta σ 149 0 f) p) :
    ∀ (k b0 n : Nat) (f : Nat → Int), b0 + k = A + 1 → k < n → DnM f A l g kept p b0 0 0 → HMs f A l g kept p → wp_X12_plansCuts_101 K Q n (sta σ 149 0 f) p b0 := by
  intro k
  induction k with
  | zero =>
    intro b0 n f hk2 hn hD hH
    obtain ⟨n, rfl⟩ : ∃ n', n = n' + 1 := ⟨n - 1, by omega⟩
    unfold wp_X12_plansCuts_101
    rw [ra_ne (show ¬ 12 = 149 by decide), h94]
    refine ⟨⟨by omega, by omega⟩, ⟨by omega, by omega⟩, fun _ => q f (fun c0 c1 c2 h1 => ?_) hH, fun z => absurd (by omega) z⟩
    refine hD c0 c1 c2 h1 ?_
    unfold lexL
    omega
  | succ k ih =>
    intro b0 n f hk2 hn hD hH
    obtain ⟨n, rfl⟩ : ∃ n', n = n' + 1 := ⟨n - 1, by omega⟩
    unfold wp_X12_plansCuts_101
    rw [ra_ne (show ¬ 12 = 149 by decide), h94]
    refine ⟨⟨by omega, by omega⟩, ⟨by omega, by omega⟩, fun z => absurd z (by omega), fun _ => ⟨A - b0 + 2, ?_⟩⟩
    refine pm112_loop hA hp h94 h95 h96 hl hg (by omega) (fun f' hD' hH' => ?_) (A - b0 + 1) 0 _ f (by omega) (by omega) hD hH
    unfold wp_X12_plansCuts_181
    rw [show ((b0 : Int) + 1) = ((b0 + 1 : Nat) : Int) by omega]
    exact ih (b0 + 1) n f' (by omega) (by omega) hD' hH'
theorem pm95_loop {σ : St} {A : Nat} {l g kept : Int} {Q : St → Prop} (hA : A ≤ 12) (h94 : σ 12 0 94 = A) (h95 : σ 12 0 95 = l) (h96 : σ 12 0 96 = g) (hl : 0 ≤ l ∧ l ≤ 60) (hg : 0 ≤ g ∧ g ≤ 60) (q : ∀ f, (∀ p, p ≤ 8 → HM f A l g kept p) → Q (sta σ 149 0 f)) :
    ∀ (k e n : Nat) (f : Nat → Int), e + k = 8 → k < n → (∀ p, p ≤ 8 → 8 ≤ p + e → HM f A l g kept p) → wp_X12_plansCuts_95 Q n (sta σ 149 0 f) (7 - (e : Int)) := by
  intro k
  induction k with
  | zero =>
    intro e n f hk2 hn hH
    obtain ⟨n, rfl⟩ : ∃ n', n = n' + 1 := ⟨n - 1, by omega⟩
    have e1 : e = 8 := by omega
    subst e1
    unfold wp_X12_plansCuts_95
    exact ⟨⟨by decide, by decide⟩, fun _ => q f (fun p hp => hH p hp (by omega)), fun z => absurd (by decide) z⟩
  | succ k ih =>
    intro e n f hk2 hn hH
    obtain ⟨n, rfl⟩ : ∃ n', n = n' + 1 := ⟨n - 1, by omega⟩
    obtain ⟨p, ep⟩ : ∃ p : Nat, p = 7 - e := ⟨_, rfl⟩
    unfold wp_X12_plansCuts_95
    rw [show (7 - (e : Int)) = (p : Int) by omega]
    refine ⟨⟨by omega, by omega⟩, fun z => absurd z (by omega), fun _ => ⟨A + 2, ?_⟩⟩
    refine pm101_loop (kept := kept) hA (by omega) h94 h95 h96 hl hg (fun f' h1 h2 => ?_) (A + 1) 0 (A + 2) f (by omega) (by omega) (fun c0 c1 c2 _ h => ?_) (fun p' z1 z2 => hH p' z2 (by omega))
    · unfold wp_X12_plansCuts_187
      rw [show ((p : Int) + -1) = 7 - ((e + 1 : Nat) : Int) by omega]
      refine ih (e + 1) n f' (by omega) (by omega) (fun p' z1 z2 => ?_)
      by_cases c : p' = p
      · rw [c]; exact h1
      · exact h2 p' (by omega) z1
    · unfold lexL at h
      exact absurd h (by omega)
theorem sm_plansCuts {σ : St} {A : Nat} {l g kept : Int} {Q : St → Prop} (hA : A ≤ 12) (h94 : σ 12 0 94 = A) (h95 : σ 12 0 95 = l) (h96 : σ 12 0 96 = g) (hl : 0 ≤ l ∧ l ≤ 60) (hg : 0 ≤ g ∧ g ≤ 60) (hk : 0 ≤ kept ∧ kept ≤ 12) (q : ∀ f, (∀ p, p ≤ 8 → HM f A l g kept p) → Q (sta σ 149 0 f)) : wp_X12_plansCuts σ kept Q := by
  have e0 : sta σ 149 0 (σ 149 0) = σ := sta_self
  have lp := pm2_loop (σ := σ) (A := A) (l := l) (g := g) (kept := kept) (K := wp_X12_plansCuts_92 Q) (Q := Q) hA h94 hk (fun f hf => ?_) (A + 1) 0 (A + 2) (σ 149 0) (by omega) (by omega) (fun c0 c1 c2 _ h => ?_)
  · rw [e0] at lp
    exact ⟨_, lp⟩
  · unfold wp_X12_plansCuts_92
    refine ⟨9, pm95_loop hA h94 h95 h96 hl hg q 8 0 9 f (by omega) (by omega) (fun p z1 z2 => ?_)⟩
    have e : p = 8 := by omega
    rw [e]
    exact hf
  · unfold lexL at h
    exact absurd h (by omega)
/-- the first of the best cuts is found again -/
theorem fo191_loop {τ : St} {A p b0 b1 b2 j m : Nat} {l g kept x8 x13 : Int} {K : St → Int → Int → Int → Int → Int → Int → Prop} {Q : Int → St → Prop} (hA : A ≤ 12) (hp : p < 8) (hm : m = b2 + 1) (hv : b0 + b1 + b2 ≤ A) (h95 : τ 12 0 95 = l) (h96 : τ 12 0 96 = g) (hl : 0 ≤ l ∧ l ≤ 60) (hg : 0 ≤ g ∧ g ≤ 60) (hH : ∀ p, p ≤ 8 → HM (τ 149 0) A l g kept p) (hj : FM (fv l g (fun t => Yv A l g kept (8 - (p + 1)) t b0 b1) m) ((A - b0 - b1 - b2 + 1) * m) j) (q : K τ x8 b0 b1 p ((j / m : Nat) : Int) ((j % m : Nat) : Int)) :
    ∀ (k x y n : Nat), x * m + y + k = j → y ≤ b2 → k < n → wp_X12_forty_191 K Q n τ x8 b0 b1 b2 p x13 x y := by
  obtain ⟨j1, j2, j3⟩ := id hj
  have stb : stI b0 b1 b2 < 2197 := by unfold stI; omega
  have yb := Yv_b (A := A) (l := l) (kept := kept) hg (8 - p) b0 b1 b2
  have eY : Yv A l g kept (8 - p) b0 b1 b2 = fv l g (fun t => Yv A l g kept (8 - (p + 1)) t b0 b1) m j := by
    rw [j2, hm, show 8 - p = (8 - (p + 1)) + 1 by omega]
    rfl
  have hP := hH p (by omega) b0 b1 b2 hv
  have xb : ∀ x y, x * m + y ≤ j → x ≤ A - b0 - b1 - b2 := fun x y h => by
    have : x < A - b0 - b1 - b2 + 1 := Nat.lt_of_mul_lt_mul_right (a := m) (Nat.lt_of_le_of_lt (Nat.le_trans (Nat.le_add_right _ _) h) j1)
    omega
  have wc : ∀ (x y : Nat) (Q2 : Int → St → Prop), x ≤ A - b0 - b1 - b2 → y ≤ b2 → Q2 (wv l g (fun t => Yv A l g kept (8 - (p + 1)) t b0 b1) x y) τ → wp_X12_withCut τ p b0 b1 b2 x13 x y Q2 := by
    intro x y Q2 h1 h2 h3
    have yb := Yv_b (A := A) (l := l) (kept := kept) hg (8 - (p + 1)) (x + y) b0 b1
    exact sm_withCut (A := A) hp h95 h96 hl hg (by omega) hA ⟨hH (p + 1) (by omega) (x + y) b0 b1 (by omega), by show -1 ≤ Yv _ _ _ _ _ _ _ _; omega, by show Yv _ _ _ _ _ _ _ _ ≤ 1000; omega⟩ h3
  have wb : ∀ x y : Nat, inR (wv l g (fun t => Yv A l g kept (8 - (p + 1)) t b0 b1) x y) := fun x y => by
    have yb := Yv_b (A := A) (l := l) (kept := kept) hg (8 - (p + 1)) (x + y) b0 b1
    have := wv_b (l := l) (R := fun t => Yv A l g kept (8 - (p + 1)) t b0 b1) (x := x) (y := y) hg (by constructor <;> omega)
    exact ⟨by omega, by omega⟩
  intro k
  induction k with
  | zero =>
    intro x y n hk hy hn
    obtain ⟨n, rfl⟩ : ∃ n', n = n' + 1 := ⟨n - 1, by omega⟩
    have ej : j = x * m + y := by omega
    have dj := ix_d (m := m) (x := x) (y := y) (by omega)
    have fj : fv l g (fun t => Yv A l g kept (8 - (p + 1)) t b0 b1) m j = wv l g (fun t => Yv A l g kept (8 - (p + 1)) t b0 b1) x y := by rw [ej]; exact fv_ix (by omega)
    rw [ej, dj.1, dj.2] at q
    unfold wp_X12_forty_191
    refine wc x y _ (xb x y (by omega)) hy ?_
    unfold wp_X12_stateOf
    dsimp only
    rw [show 169 * (b0 : Int) + 13 * (b1 : Int) + b2 = (stI b0 b1 b2 : Nat) by unfold stI; omega, show Int.toNat (2197 * (p : Int) + ((stI b0 b1 b2 : Nat) : Int)) = 2197 * p + stI b0 b1 b2 by omega, hP]
    exact ⟨by omega, by omega, wb x y, ⟨by omega, by omega⟩, fun _ => q, fun z => absurd (by rw [eY, fj]) z⟩
  | succ k ih =>
    intro x y n hk hy hn
    obtain ⟨n, rfl⟩ : ∃ n', n = n' + 1 := ⟨n - 1, by omega⟩
    have lt := j3 (x * m + y) (by omega)
    rw [fv_ix (by omega), ← eY] at lt
    unfold wp_X12_forty_191
    refine wc x y _ (xb x y (by omega)) hy ?_
    unfold wp_X12_stateOf wp_X12_forty_247 wp_X12_forty_265
    dsimp only
    rw [show 169 * (b0 : Int) + 13 * (b1 : Int) + b2 = (stI b0 b1 b2 : Nat) by unfold stI; omega, show Int.toNat (2197 * (p : Int) + ((stI b0 b1 b2 : Nat) : Int)) = 2197 * p + stI b0 b1 b2 by omega, hP]
    refine ⟨by omega, by omega, wb x y, ⟨by omega, by omega⟩, fun z => absurd z (by omega), fun _ => ⟨⟨by omega, by omega⟩, ⟨by omega, by omega⟩, fun z v8 e8 => ⟨⟨by omega, by omega⟩, ⟨by omega, by omega⟩, fun _ => ?_, fun y => absurd y z⟩, fun z v8 e8 => ⟨⟨by omega, by omega⟩, ⟨by omega, by omega⟩, fun y => absurd z y, fun _ => ?_⟩⟩⟩
    · rw [e8, Int.add_zero, show ((y : Int) + 1) = ((y + 1 : Nat) : Int) by omega]
      exact ih x (y + 1) n (by omega) (by omega) (by omega)
    · rw [e8, show ((x : Int) + 1) = ((x + 1 : Nat) : Int) by omega]
      have em : (x + 1) * m = x * m + m := Nat.succ_mul _ _
      exact ih (x + 1) 0 n (by omega) (by omega) (by omega)
theorem fo163_loop {τ : St} {A s0 s1 s2 : Nat} {l g kept x8 : Int} {js : Nat → Nat} {Q : Int → St → Prop} (hA : A ≤ 12) (h94 : τ 12 0 94 = A) (h95 : τ 12 0 95 = l) (h96 : τ 12 0 96 = g) (hl : 0 ≤ l ∧ l ≤ 60) (hg : 0 ≤ g ∧ g ≤ 60) (hH : ∀ p, p ≤ 8 → HM (τ 149 0) A l g kept p) (hP : PthOK A l g kept js s0 s1 s2 8) (q : ∀ T, (∀ p, p < 8 → T 150 0 p = ((js p / ((pst js s0 s1 s2 p).2.2 + 1) : Nat) : Int) ∧ T 151 0 p = ((js p % ((pst js s0 s1 s2 p).2.2 + 1) : Nat) : Int)) → (∀ k, ¬ k = 150 → ¬ k = 151 → T k = τ k) → Q x8 T) :
    ∀ (k p n : Nat) (T : St), p + k = 8 → k < n → (pst js s0 s1 s2 p).1 + (pst js s0 s1 s2 p).2.1 + (pst js s0 s1 s2 p).2.2 ≤ A → ¬ Yv A l g kept (8 - p) (pst js s0 s1 s2 p).1 (pst js s0 s1 s2 p).2.1 (pst js s0 s1 s2 p).2.2 = -1 → (∀ p', p' < p → T 150 0 p' = ((js p' / ((pst js s0 s1 s2 p').2.2 + 1) : Nat) : Int) ∧ T 151 0 p' = ((js p' % ((pst js s0 s1 s2 p').2.2 + 1) : Nat) : Int)) → (∀ k, ¬ k = 150 → ¬ k = 151 → T k = τ k) → wp_X12_forty_163 Q n T x8 (pst js s0 s1 s2 p).1 (pst js s0 s1 s2 p).2.1 (pst js s0 s1 s2 p).2.2 p := by
  intro k
  induction k with
  | zero =>
    intro p n T hk hn hv hy h50 hF
    obtain ⟨n, rfl⟩ : ∃ n', n = n' + 1 := ⟨n - 1, by omega⟩
    have e : p = 8 := by omega
    subst e
    unfold wp_X12_forty_163
    exact ⟨⟨by decide, by decide⟩, fun _ => q T h50 hF, fun z => absurd (by decide) z⟩
  | succ k ih =>
    intro p n T hk hn hv hy h50 hF
    obtain ⟨n, rfl⟩ : ∃ n', n = n' + 1 := ⟨n - 1, by omega⟩
    have fm := hP p (by omega)
    have pn : pst js s0 s1 s2 (p + 1) = (js p / ((pst js s0 s1 s2 p).2.2 + 1) + js p % ((pst js s0 s1 s2 p).2.2 + 1), (pst js s0 s1 s2 p).1, (pst js s0 s1 s2 p).2.1) := rfl
    have nx := fun T => ih (p + 1) n T (by omega) (by omega)
    rw [pn] at nx
    dsimp only at nx
    have h50b := h50
    obtain ⟨b0, e0⟩ : ∃ b0, b0 = (pst js s0 s1 s2 p).1 := ⟨_, rfl⟩
    obtain ⟨b1, e1⟩ : ∃ b1, b1 = (pst js s0 s1 s2 p).2.1 := ⟨_, rfl⟩
    obtain ⟨b2, e2⟩ : ∃ b2, b2 = (pst js s0 s1 s2 p).2.2 := ⟨_, rfl⟩
    rw [← e0, ← e1, ← e2] at hv hy fm nx ⊢
    obtain ⟨o1, o2, o3⟩ := step_ok (by omega) hv hy fm
    have t12 : T 12 = τ 12 := hF 12 (by decide) (by decide)
    unfold wp_X12_forty_163
    refine ⟨⟨by omega, by omega⟩, fun z => absurd z (by omega), fun _ v25 e25 => ⟨js p + 1, ?_⟩⟩
    refine fo191_loop (τ := T) (A := A) (m := b2 + 1) (kept := kept) hA (by omega) rfl hv (by rw [t12]; exact h95) (by rw [t12]; exact h96) hl hg (by rw [hF 149 (by decide) (by decide)]; exact hH) fm ?_ (js p) 0 0 (js p + 1) (by omega) (by omega) (by omega)
    unfold wp_X12_forty_270
    rw [Int.toNat_natCast]
    refine ⟨by omega, by omega, fun s3 e3 => ⟨by omega, by omega, fun s6 e6 v7 e7 => ?_⟩⟩
    rw [e7, show ((p : Int) + 1) = ((p + 1 : Nat) : Int) by omega, show ((js p / (b2 + 1) : Nat) : Int) + ((js p % (b2 + 1) : Nat) : Int) = ((js p / (b2 + 1) + js p % (b2 + 1) : Nat) : Int) by omega]
    refine nx s6 (by omega) o3 (fun i hi => ?_) (fun k z1 z2 => by rw [e6, rs_ne z2, e3, rs_ne z1]; exact hF k z1 z2)
    rw [e6, rs_eq, rs_ne (by decide), e3, rs_eq, rs_ne (by decide)]
    by_cases c : i = p
    · subst c
      rw [up_eq, up_eq, ← e2]
      exact ⟨rfl, rfl⟩
    · rw [up_ne c, up_ne c]
      exact h50b i (by omega)
theorem Inv_forty {n : Nat} {σ U : St} (hI : Inv n σ) (hk : ∀ k, ¬ k = 5 → ¬ k = 12 → ¬ k = 51 → ¬ k = 53 → ¬ k = 54 → ¬ k = 149 → ¬ k = 150 → ¬ k = 151 → U k = σ k) (h5 : U 5 0 3 = σ 5 0 3) (h12 : ∀ i, ¬ i = 0 → ¬ i = 93 → ¬ i = 94 → ¬ i = 95 → ¬ i = 96 → U 12 0 i = σ 12 0 i) (hc : I_cuts (U 5 0 16) (U 12 0 93) (U 54 0) (U 150 0) (U 151 0)) : Inv (n + 1) U := by
  obtain ⟨a_sky, a_land, a_price, a_ints, a_logA, a_logB, a_live, a_lying, a_ways, a_crews, a_dbl, a_tape, a_law, a_ord, a_spur, a_cuts, a_cru, a_kf, a_tn⟩ := hI
  unfold Inv
  simp (decide := true) only [hk, h5, h12, not_false_eq_true]
  exact ⟨a_sky, a_land, a_price, I_ints_up a_ints, a_logA, a_logB, a_live, a_lying, a_ways, a_crews, a_dbl, a_tape, a_law, a_ord, a_spur, hc, a_cru, a_kf, a_tn⟩
theorem forty_m {n : Nat} {S : St} {A s0 s1 s2 s3 : Nat} {l g kept r : Int} (hA : s0 + s1 + s2 + s3 = A) (hA2 : A ≤ 12) (b0 : s0 ≤ 9) (b1 : s1 ≤ 9) (b2 : s2 ≤ 9) (b3 : s3 ≤ 9) (hl : 0 ≤ l ∧ l ≤ 60) (hg : 0 ≤ g ∧ g ≤ 60) (hk : 0 ≤ kept ∧ kept ≤ 12)
    (q2 : Yv A l g kept 8 s0 s1 s2 = -1 → r = -2 ∧ ∀ U : St, (∀ k, ¬ k = 12 → ¬ k = 149 → U k = S k) → (∀ i, ¬ i = 0 → ¬ i = 94 → ¬ i = 95 → ¬ i = 96 → U 12 0 i = S 12 0 i) → Inv (n + 1) U)
    (q1 : ¬ Yv A l g kept 8 s0 s1 s2 = -1 → ∃ js, PthOK A l g kept js s0 s1 s2 8 ∧ r = Yv A l g kept 8 s0 s1 s2 ∧ ∀ U : St, (∀ k, ¬ k = 12 → ¬ k = 149 → ¬ k = 150 → ¬ k = 151 → U k = S k) → (∀ i, ¬ i = 0 → ¬ i = 93 → ¬ i = 94 → ¬ i = 95 → ¬ i = 96 → U 12 0 i = S 12 0 i) → U 12 0 93 = 1 → (∀ p, p < 8 → U 150 0 p = ((js p / ((pst js s0 s1 s2 p).2.2 + 1) : Nat) : Int) ∧ U 151 0 p = ((js p % ((pst js s0 s1 s2 p).2.2 + 1) : Nat) : Int)) → Inv (n + 1) U) :
    wp_X12_forty S s0 s1 s2 s3 l g kept (fun r2 σ2 => r2 = r ∧ Inv (n + 1) σ2) := by
  intro τ eτ
  have i0 : ∀ a : Nat, a ≤ 9 → inR (a : Int) := fun a ha => ⟨by omega, by omega⟩
  refine wi_m (i0 s0 b0) in0 ⟨by decide, by decide⟩ (fun _ _ => ⟨in1, fun c => absurd c (by decide), fun _ => ?_⟩) (fun z => absurd ⟨by omega, by omega⟩ z)
  refine wi_m (i0 s1 b1) in0 ⟨by decide, by decide⟩ (fun _ _ => ⟨in1, fun c => absurd c (by decide), fun _ => ?_⟩) (fun z => absurd ⟨by omega, by omega⟩ z)
  refine wi_m (i0 s2 b2) in0 ⟨by decide, by decide⟩ (fun _ _ => ⟨in1, fun c => absurd c (by decide), fun _ => ?_⟩) (fun z => absurd ⟨by omega, by omega⟩ z)
  refine wi_m (i0 s3 b3) in0 ⟨by decide, by decide⟩ (fun _ _ => ⟨in1, fun c => absurd c (by decide), fun _ => ⟨⟨by omega, by omega⟩, fun z => absurd z (by omega), fun _ => ?_⟩⟩) (fun z => absurd ⟨by omega, by omega⟩ z)
  refine wi_m ⟨by omega, by omega⟩ in0 ⟨by decide, by decide⟩ (fun _ _ => ⟨in1, fun c => absurd c (by decide), fun _ => ?_⟩) (fun z => absurd hl z)
  refine wi_m ⟨by omega, by omega⟩ in0 ⟨by decide, by decide⟩ (fun _ _ => ⟨in1, fun c => absurd c (by decide), fun _ => ?_⟩) (fun z => absurd hg z)
  refine wi_m ⟨by omega, by omega⟩ in0 ⟨by decide, by decide⟩ (fun _ _ => ⟨in1, fun _ s50 e50 s51 e51 s52 e52 => ?_, fun c => absurd c (by decide)⟩) (fun z => absurd hk z)
  have g94 : s52 12 0 94 = A := by rw [e52, rs_eq, up_ne (by decide), e51, rs_eq, up_ne (by decide), e50, rs_eq, up_eq]; omega
  have g95 : s52 12 0 95 = l := by rw [e52, rs_eq, up_ne (by decide), e51, rs_eq, up_eq]
  have g96 : s52 12 0 96 = g := by rw [e52, rs_eq, up_eq]
  have g12 : ∀ i, ¬ i = 0 → ¬ i = 94 → ¬ i = 95 → ¬ i = 96 → s52 12 0 i = S 12 0 i := fun i z0 z1 z2 z3 => by rw [e52, rs_eq, up_ne z3, e51, rs_eq, up_ne z2, e50, rs_eq, up_ne z1, eτ, rs_eq, up_ne z0]
  have gk : ∀ k, ¬ k = 12 → s52 k = S k := fun k z => by rw [e52, rs_ne z, e51, rs_ne z, e50, rs_ne z, eτ, rs_ne z]
  refine sm_plansCuts hA2 g94 g95 g96 hl hg hk (fun f hf => ?_)
  have stb : stI s0 s1 s2 < 2197 := by unfold stI; omega
  have yb := Yv_b (A := A) (l := l) (kept := kept) hg 8 s0 s1 s2
  have h0 : f (stI s0 s1 s2) = Yv A l g kept 8 s0 s1 s2 := by
    have := hf 0 (by decide) s0 s1 s2 (by omega)
    rw [show 2197 * 0 + stI s0 s1 s2 = stI s0 s1 s2 by omega] at this
    exact this
  unfold wp_X12_stateOf
  dsimp only
  rw [show 169 * (s0 : Int) + 13 * (s1 : Int) + s2 = (stI s0 s1 s2 : Nat) by unfold stI; omega, Int.toNat_natCast, ra_eq, h0]
  refine ⟨by omega, by omega, fun v ev => ?_⟩
  subst ev
  refine ⟨⟨by omega, by omega⟩, fun z s60 e60 => ?_, fun z => ?_⟩
  · obtain ⟨js, hP, er, qU⟩ := q1 z
    have r12 : ∀ i, ¬ i = 93 → s60 12 0 i = s52 12 0 i := fun i hi => by rw [e60, rs_eq, up_ne hi, ra_ne (by decide)]
    refine ⟨9, fo163_loop (τ := s60) (s0 := s0) (s1 := s1) (s2 := s2) (js := js) (kept := kept) hA2 (by rw [r12 94 (by decide)]; exact g94) (by rw [r12 95 (by decide)]; exact g95) (by rw [r12 96 (by decide)]; exact g96) hl hg (by rw [e60, rs_ne (by decide), ra_eq]; exact hf) hP (fun U hU hFU => ⟨er.symm, qU U (fun k z1 z2 z3 z4 => ?_) (fun i z0 z1 z2 z3 z4 => ?_) ?_ hU⟩) 8 0 9 s60 (by omega) (by omega) (show s0 + s1 + s2 ≤ A by omega) z (fun p hp => absurd hp (by omega)) (fun k _ _ => rfl)⟩
    · rw [hFU k z3 z4, e60, rs_ne z1, ra_ne z2, gk k z1]
    · rw [hFU 12 (by decide) (by decide), r12 i z1, g12 i z0 z2 z3 z4]
    · rw [hFU 12 (by decide) (by decide), e60, rs_eq, up_eq]
  · obtain ⟨er, qU⟩ := q2 z
    refine ⟨er.symm, qU _ (fun k z1 z2 => by rw [ra_ne z2, gk k z1]) (fun i z0 z1 z2 z3 => by rw [ra_ne (by decide), g12 i z0 z1 z2 z3])⟩
theorem op_forty {n : Nat} {σ : St} {x1 x2 x3 x4 x5 x6 x7 : Int} (hI : Inv n σ) (h1 : inR x1) (h2 : inR x2) (h3 : inR x3) (h4 : inR x4) (h5 : inR x5) (h6 : inR x6) (h7 : inR x7) : wp_X11_forty σ x1 x2 x3 x4 x5 x6 x7 (fun r σ1 => wp_X12_forty σ1 x1 x2 x3 x4 x5 x6 x7 (fun r2 σ2 => r2 = r ∧ Inv (n + 1) σ2)) := by
  have hI0 := hI
  obtain ⟨a_sky, a_land, a_price, a_ints, a_logA, a_logB, a_live, a_lying, a_ways, a_crews, a_dbl, a_tape, a_law, a_ord, a_spur, a_cuts, a_cru, a_kf, a_tn⟩ := hI
  obtain ⟨⟨c1, c2, c3⟩, c4⟩ := id a_cuts
  have hno : ¬ (0 ≤ x1 ∧ x1 ≤ 9 ∧ 0 ≤ x2 ∧ x2 ≤ 9 ∧ 0 ≤ x3 ∧ x3 ≤ 9 ∧ 0 ≤ x4 ∧ x4 ≤ 9 ∧ x1 + x2 + x3 + x4 ≤ 12 ∧ 0 ≤ x5 ∧ x5 ≤ 60 ∧ 0 ≤ x6 ∧ x6 ≤ 60 ∧ 0 ≤ x7 ∧ x7 ≤ 12) → wp_X12_forty σ x1 x2 x3 x4 x5 x6 x7 (fun r2 σ2 => r2 = -1 ∧ Inv (n + 1) σ2) := by
    intro hc τ eτ
    have hi : Inv (n + 1) τ := by rw [eτ]; exact Inv_t hI0
    refine wi_m h1 in0 ⟨by decide, by decide⟩ (fun a b => ⟨in1, fun c => absurd c (by decide), fun _ => ?_⟩) (fun a => ⟨in0, fun _ => ⟨rfl, hi⟩, fun c => absurd rfl c⟩)
    refine wi_m h2 in0 ⟨by decide, by decide⟩ (fun a2 b2 => ⟨in1, fun c => absurd c (by decide), fun _ => ?_⟩) (fun a => ⟨in0, fun _ => ⟨rfl, hi⟩, fun c => absurd rfl c⟩)
    refine wi_m h3 in0 ⟨by decide, by decide⟩ (fun a3 b3 => ⟨in1, fun c => absurd c (by decide), fun _ => ?_⟩) (fun a => ⟨in0, fun _ => ⟨rfl, hi⟩, fun c => absurd rfl c⟩)
    refine wi_m h4 in0 ⟨by decide, by decide⟩ (fun a4 b4 => ⟨in1, fun c => absurd c (by decide), fun _ => ⟨⟨by omega, by omega⟩, fun z => ⟨rfl, hi⟩, fun z => ?_⟩⟩) (fun a => ⟨in0, fun _ => ⟨rfl, hi⟩, fun c => absurd rfl c⟩)
    refine wi_m h5 in0 ⟨by decide, by decide⟩ (fun a5 b5 => ⟨in1, fun c => absurd c (by decide), fun _ => ?_⟩) (fun a => ⟨in0, fun _ => ⟨rfl, hi⟩, fun c => absurd rfl c⟩)
    refine wi_m h6 in0 ⟨by decide, by decide⟩ (fun a6 b6 => ⟨in1, fun c => absurd c (by decide), fun _ => ?_⟩) (fun a => ⟨in0, fun _ => ⟨rfl, hi⟩, fun c => absurd rfl c⟩)
    exact wi_m h7 in0 ⟨by decide, by decide⟩ (fun a7 b7 => absurd ⟨a, b, a2, b2, a3, b3, a4, b4, by omega, a5, b5, a6, b6, a7, b7⟩ hc) (fun a => ⟨in0, fun c => absurd rfl c, fun _ => ⟨rfl, hi⟩⟩)
  unfold wp_X11_forty
  refine wi_x h1 in0 ⟨by decide, by decide⟩ (fun a1 b1 => ⟨in1, fun c => absurd c (by decide), fun _ => ?_⟩) (fun a => ⟨in0, fun _ => hno (fun y => a ⟨y.1, y.2.1⟩), fun c => absurd rfl c⟩)
  refine wi_x h2 in0 ⟨by decide, by decide⟩ (fun a2 b2 => ⟨in1, fun c => absurd c (by decide), fun _ => ?_⟩) (fun a => ⟨in0, fun _ => hno (fun y => a ⟨y.2.2.1, y.2.2.2.1⟩), fun c => absurd rfl c⟩)
  refine wi_x h3 in0 ⟨by decide, by decide⟩ (fun a3 b3 => ⟨in1, fun c => absurd c (by decide), fun _ => ?_⟩) (fun a => ⟨in0, fun _ => hno (fun y => a ⟨y.2.2.2.2.1, y.2.2.2.2.2.1⟩), fun c => absurd rfl c⟩)
  refine wi_x h4 in0 ⟨by decide, by decide⟩ (fun a4 b4 => ⟨in1, fun _ => ⟨⟨by omega, by omega⟩, fun z => hno (fun y => by have := y.2.2.2.2.2.2.2.2.1; omega), fun z => ?_⟩, fun c => absurd c (by decide)⟩) (fun a => ⟨in0, fun c => absurd rfl c, fun _ => hno (fun y => a ⟨y.2.2.2.2.2.2.1, y.2.2.2.2.2.2.2.1⟩)⟩)
  refine wi_x h7 in0 ⟨by decide, by decide⟩ (fun a7 b7 => ⟨in1, fun _ => ?_, fun c => absurd c (by decide)⟩) (fun a => ⟨in0, fun c => absurd rfl c, fun _ => hno (fun y => a ⟨y.2.2.2.2.2.2.2.2.2.2.2.2.2.1, y.2.2.2.2.2.2.2.2.2.2.2.2.2.2⟩)⟩)
  refine wi_x h5 in0 ⟨by decide, by decide⟩ (fun a5 b5 => ⟨in1, fun c => absurd c (by decide), fun _ => ?_⟩) (fun a => ⟨in0, fun _ => hno (fun y => a ⟨y.2.2.2.2.2.2.2.2.2.1, y.2.2.2.2.2.2.2.2.2.2.1⟩), fun c => absurd rfl c⟩)
  refine wi_x h6 in0 ⟨by decide, by decide⟩ (fun a6 b6 => ⟨in1, fun _ => ?_, fun c => absurd c (by decide)⟩) (fun a => ⟨in0, fun c => absurd rfl c, fun _ => hno (fun y => a ⟨y.2.2.2.2.2.2.2.2.2.2.2.1, y.2.2.2.2.2.2.2.2.2.2.2.2.1⟩)⟩)
  clear hno
  obtain ⟨s0, rfl⟩ : ∃ s : Nat, x1 = s := ⟨x1.toNat, by omega⟩
  obtain ⟨s1, rfl⟩ : ∃ s : Nat, x2 = s := ⟨x2.toNat, by omega⟩
  obtain ⟨s2, rfl⟩ : ∃ s : Nat, x3 = s := ⟨x3.toNat, by omega⟩
  obtain ⟨s3, rfl⟩ : ∃ s : Nat, x4 = s := ⟨x4.toNat, by omega⟩
  unfold wp_X5_startCuts
  intro t1 e1 t2 e2 t3 e3 t4 e4
  rw [show Int.toNat 0 = 0 from rfl] at e1
  rw [show Int.toNat 1 = 1 from rfl] at e2
  rw [show Int.toNat 2 = 2 from rfl] at e3
  rw [show Int.toNat 3 = 3 from rfl] at e4
  have tk : ∀ k, ¬ k = 51 → t4 k = σ k := fun k z => by rw [e4, rs_ne z, e3, rs_ne z, e2, rs_ne z, e1, rs_ne z]
  refine sx_planCuts (A := s0 + s1 + s2 + s3) (s0 := s0) (s1 := s1) (s2 := s2) (s3 := s3) (by rw [e4, rs_eq, up_ne (by decide), e3, rs_eq, up_ne (by decide), e2, rs_eq, up_ne (by decide), e1, rs_eq, up_eq]) (by rw [e4, rs_eq, up_ne (by decide), e3, rs_eq, up_ne (by decide), e2, rs_eq, up_eq]) (by rw [e4, rs_eq, up_ne (by decide), e3, rs_eq, up_eq]) (by rw [e4, rs_eq, up_eq]) rfl (by omega) ⟨a5, b5⟩ ⟨a6, b6⟩ ⟨a7, b7⟩ (fun y S hF => ?_) (fun y S js hP h54 f1 f2 f3 => ?_)
  · refine forty_m (A := s0 + s1 + s2 + s3) rfl (by omega) (by omega) (by omega) (by omega) (by omega) ⟨a5, b5⟩ ⟨a6, b6⟩ ⟨a7, b7⟩ (fun _ => ⟨rfl, fun U hk h12 => ?_⟩) (fun w => absurd y w)
    have u5 : ∀ i, ¬ i = 13 → ¬ i = 14 → U 5 0 i = σ 5 0 i := fun i z1 z2 => by rw [hk 5 (by decide) (by decide), hF.2 i z1 z2, tk 5 (by decide)]
    have uk : ∀ k, ¬ k = 5 → ¬ k = 12 → ¬ k = 51 → ¬ k = 53 → ¬ k = 149 → U k = σ k := fun k z1 z2 z3 z4 z5 => by rw [hk k z2 z5, hF.1 k z1 z4, tk k z3]
    have u12 : ∀ i, ¬ i = 0 → ¬ i = 94 → ¬ i = 95 → ¬ i = 96 → U 12 0 i = σ 12 0 i := fun i z1 z2 z3 z4 => by rw [h12 i z1 z2 z3 z4, hF.1 12 (by decide) (by decide), tk 12 (by decide)]
    refine Inv_forty hI0 (fun k z1 z2 z3 z4 z5 z6 z7 z8 => uk k z1 z2 z3 z4 z6) (u5 3 (by decide) (by decide)) (fun i z1 z2 z3 z4 z5 => u12 i z1 z3 z4 z5) ?_
    rw [u5 16 (by decide) (by decide), u12 93 (by decide) (by decide) (by decide) (by decide), uk 54 (by decide) (by decide) (by decide) (by decide) (by decide), uk 150 (by decide) (by decide) (by decide) (by decide) (by decide), uk 151 (by decide) (by decide) (by decide) (by decide) (by decide)]
    exact a_cuts
  · refine forty_m (A := s0 + s1 + s2 + s3) rfl (by omega) (by omega) (by omega) (by omega) (by omega) ⟨a5, b5⟩ ⟨a6, b6⟩ ⟨a7, b7⟩ (fun w => absurd w y) (fun _ => ⟨js, hP, rfl, fun U hk h12 h93 h150 => ?_⟩)
    have uk : ∀ k, ¬ k = 5 → ¬ k = 12 → ¬ k = 51 → ¬ k = 53 → ¬ k = 54 → ¬ k = 149 → ¬ k = 150 → ¬ k = 151 → U k = σ k := fun k z1 z2 z3 z4 z5 z6 z7 z8 => by rw [hk k z2 z6 z7 z8, f1 k z1 z4 z5, tk k z3]
    refine Inv_forty hI0 uk (by rw [hk 5 (by decide) (by decide) (by decide) (by decide), f2 3 (by decide) (by decide) (by decide), tk 5 (by decide)]) (fun i z1 z2 z3 z4 z5 => by rw [h12 i z1 z2 z3 z4 z5, f1 12 (by decide) (by decide) (by decide), tk 12 (by decide)]) ?_
    rw [hk 5 (by decide) (by decide) (by decide) (by decide), f3, h93, hk 54 (by decide) (by decide) (by decide) (by decide)]
    refine ⟨⟨rfl, by decide, by decide⟩, fun p hp => ?_⟩
    rw [(h54 p hp).1, (h54 p hp).2, (h150 p hp).1, (h150 p hp).2]
    exact ⟨rfl, rfl⟩
