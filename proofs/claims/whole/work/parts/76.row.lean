/-! a row of pieces, by its figures -/
def wdv (tp : Nat → Int) (s k u : Int) : Int := max 1 (10 + 7 * k + s - tp s.toNat * u)
theorem wdv_b {tp : Nat → Int} {s k u : Int} (hs : 0 ≤ s ∧ s ≤ 3) (hk : 0 ≤ k ∧ k ≤ 3) (ht : 1 ≤ tp s.toNat ∧ tp s.toNat ≤ 3) (hu : 2 ≤ u ∧ u ≤ 60) : 1 ≤ wdv tp s k u ∧ wdv tp s k u ≤ 32 := by
  unfold wdv
  have e : tp s.toNat * u = u ∨ tp s.toNat * u = 2 * u ∨ tp s.toNat * u = 3 * u := by
    rcases (show tp s.toNat = 1 ∨ tp s.toNat = 2 ∨ tp s.toNat = 3 by omega) with h | h | h <;> rw [h] <;> omega
  omega
theorem sx_wideAt {σ : St} {s k u : Int} {Q : Int → St → Prop} (hs : 0 ≤ s ∧ s ≤ 3) (hk : 0 ≤ k ∧ k ≤ 3) (ht : ∀ i, i < 4 → 1 ≤ σ 33 0 i ∧ σ 33 0 i ≤ 3) (hu : 0 ≤ u ∧ u ≤ 60) (q : Q (wdv (σ 33 0) s k u) σ) : wp_X3_wideAt σ s k u Q := by
  have t := ht s.toNat (by omega)
  have e := mul_b (a := σ 33 0 s.toNat) (b := u) (A := 3) (B := 60) (by omega) (by omega) hu.1 hu.2
  exact ⟨by omega, by omega, j_max in1 ⟨by omega, by omega⟩ q⟩
theorem sm_wideAt {σ : St} {s k u : Int} {Q : Int → St → Prop} (hs : 0 ≤ s ∧ s ≤ 3) (hk : 0 ≤ k ∧ k ≤ 3) (ht : ∀ i, i < 4 → 1 ≤ σ 87 0 i ∧ σ 87 0 i ≤ 3) (hu : 0 ≤ u ∧ u ≤ 60) (q : Q (wdv (σ 87 0) s k u) σ) : wp_X12_wideAt σ s k u Q := by
  have t := ht s.toNat (by omega)
  have e := mul_b (a := σ 87 0 s.toNat) (b := u) (A := 3) (B := 60) (by omega) (by omega) hu.1 hu.2
  unfold wdv at q
  refine ⟨by omega, by omega, fun v ev => ⟨⟨by omega, by omega⟩, fun c => ?_, fun c => ?_⟩⟩
  · rw [show max 1 (10 + 7 * k + s - σ 87 0 s.toNat * u) = v by omega] at q
    exact q
  · rw [show max 1 (10 + 7 * k + s - σ 87 0 s.toNat * u) = 1 by omega] at q
    exact q
def dv : Int → Nat → Int
  | x, 0 => x
  | x, k + 1 => dv (x / 10) k
theorem dv_s (x : Int) (k : Nat) : dv x (k + 1) = dv x k / 10 := by
  induction k generalizing x with
  | zero => rfl
  | succ k ih => exact ih (x / 10)
theorem dv_b {x : Int} (h0 : 0 ≤ x) (h1 : x < 2147483648) (k : Nat) : 0 ≤ dv x k ∧ dv x k < 2147483648 := by
  induction k with
  | zero => exact ⟨h0, h1⟩
  | succ k ih =>
    rw [dv_s]
    omega
/-- how many figures a row has, up to m -/
def ndg : Nat → Int → Int
  | 0, _ => 0
  | m + 1, x => if x ≤ 0 then 0 else 1 + ndg m (x / 10)
theorem ndg_b (m : Nat) (x : Int) : 0 ≤ ndg m x ∧ ndg m x ≤ m := by
  induction m generalizing x with
  | zero => exact ⟨Int.le_refl _, Int.le_refl _⟩
  | succ m ih =>
    have := ih (x / 10)
    unfold ndg
    split <;> omega
/-- the class stops at six -/
theorem fig_loop {σ : St} {Q : Int → St → Prop} : ∀ (m n : Nat) (x acc : Int), x < (10 : Int) ^ m → inR x → 0 ≤ acc → acc ≤ 6 → m < n → Q (min 6 (acc + ndg m x)) σ → wp_X0_figuresOf_4 Q n σ acc x := by
  intro m
  induction m with
  | zero =>
    intro n x acc hx hr ha hb hn q
    obtain ⟨n, rfl⟩ : ∃ n', n = n' + 1 := ⟨n - 1, by omega⟩
    rw [Int.pow_zero] at hx
    unfold wp_X0_figuresOf_4
    rw [show ndg 0 x = 0 from rfl, Int.add_zero, show min 6 acc = acc by omega] at q
    exact ⟨hr, fun _ => q, fun z => absurd (by omega) z⟩
  | succ m ih =>
    intro n x acc hx hr ha hb hn q
    obtain ⟨n, rfl⟩ : ∃ n', n = n' + 1 := ⟨n - 1, by omega⟩
    rw [Int.pow_succ] at hx
    obtain ⟨hr1, hr2⟩ := id hr
    have nb := ndg_b m (x / 10)
    unfold wp_X0_figuresOf_4
    unfold ndg at q
    refine ⟨hr, fun c => ?_, fun c => ⟨⟨by omega, by omega⟩, fun d => ?_, fun d => ⟨hr, fun v e => ?_⟩⟩⟩
    · rw [if_pos c, Int.add_zero, show min 6 acc = acc by omega] at q
      exact q
    · rw [if_neg c, show min 6 (acc + (1 + ndg m (x / 10))) = acc by omega] at q
      exact q
    · rw [if_neg c] at q
      rw [tdn (by omega)] at e
      rw [e]
      refine ih n (x / 10) (acc + 1) ?_ ⟨by omega, by omega⟩ (by omega) (by omega) (by omega) ?_
      · generalize (10 : Int) ^ m = P at *
        omega
      · rw [show acc + 1 + ndg m (x / 10) = acc + (1 + ndg m (x / 10)) by omega]
        exact q
theorem figm_loop {σ : St} {x2 x3 : Int} {K : St → Int → Int → Int → Prop} {Q : Int → St → Prop} : ∀ (m n : Nat) (x acc : Int), x < (10 : Int) ^ m → inR x → m < n → K σ x2 x3 (acc + ndg m x) → wp_X12_lays_11 K Q n σ x2 x3 acc x := by
  intro m
  induction m with
  | zero =>
    intro n x acc hx hr hn q
    obtain ⟨n, rfl⟩ : ∃ n', n = n' + 1 := ⟨n - 1, by omega⟩
    rw [Int.pow_zero] at hx
    unfold wp_X12_lays_11
    rw [show ndg 0 x = 0 from rfl, Int.add_zero] at q
    exact ⟨hr, fun _ => q, fun z => absurd (by omega) z⟩
  | succ m ih =>
    intro n x acc hx hr hn q
    obtain ⟨n, rfl⟩ : ∃ n', n = n' + 1 := ⟨n - 1, by omega⟩
    rw [Int.pow_succ] at hx
    obtain ⟨hr1, hr2⟩ := id hr
    unfold wp_X12_lays_11
    unfold ndg at q
    refine ⟨hr, fun c => ?_, fun c => ⟨hr, fun v e => ?_⟩⟩
    · rw [if_pos c, Int.add_zero] at q
      exact q
    · rw [if_neg c] at q
      rw [tdn (by omega)] at e
      rw [e]
      refine ih n (x / 10) (acc + 1) ?_ ⟨by omega, by omega⟩ (by omega) ?_
      · generalize (10 : Int) ^ m = P at *
        omega
      · rw [show acc + 1 + ndg m (x / 10) = acc + (1 + ndg m (x / 10)) by omega]
        exact q
def goodR (x : Int) (m : Nat) : Prop := ∀ k, k < m → 2 ≤ dv x k % 10 ∧ dv x k % 10 ≤ 6
/-- the figures of a row, the first in front -/
def figs (x : Int) (m : Nat) (f : Nat → Int) : Prop := ∀ k, k < m → f (m - 1 - k) = dv x k % 10
theorem take_loop {σ : St} {x : Int} {m : Nat} {Q : Int → St → Prop} (hx : 0 ≤ x ∧ x < 2147483648) (hm : m ≤ 5) (q1 : goodR x m → ∀ f, figs x m f → Q 1 (st (sta σ 23 0 f) 0 0 4 m)) (q0 : ¬ goodR x m → ∀ f, Q 0 (sta σ 23 0 f)) :
    ∀ (c n : Nat) (f : Nat → Int), c ≤ m → c < n → goodR x (m - c) → (∀ k, k < m - c → f (m - 1 - k) = dv x k % 10) → wp_X0_takeFigures_29 (wp_X0_takeFigures_73 Q) Q n (sta σ 23 0 f) m (dv x (m - c)) ((c : Int) - 1) := by
  intro c
  induction c with
  | zero =>
    intro n f hc hn hg hf
    obtain ⟨n, rfl⟩ : ∃ n', n = n' + 1 := ⟨n - 1, by omega⟩
    unfold wp_X0_takeFigures_29 wp_X0_takeFigures_73
    exact ⟨⟨by omega, by omega⟩, fun _ s e => by rw [e]; exact q1 hg f hf, fun z => absurd (by omega) z⟩
  | succ c ih =>
    intro n f hc hn hg hf
    obtain ⟨n, rfl⟩ : ∃ n', n = n' + 1 := ⟨n - 1, by omega⟩
    have db := dv_b hx.1 hx.2 (m - (c + 1))
    have ds := dv_s x (m - (c + 1))
    rw [show m - (c + 1) + 1 = m - c by omega] at ds
    unfold wp_X0_takeFigures_29
    refine ⟨⟨by omega, by omega⟩, fun z => absurd z (by omega), fun _ => ⟨⟨by omega, by omega⟩, fun v e => ?_⟩⟩
    rw [tmn db.1] at e
    refine wi_x ⟨by omega, by omega⟩ ⟨by decide, by decide⟩ ⟨by decide, by decide⟩ (fun a b => ⟨in1, fun _ => ⟨by omega, by omega, fun s1 e1 => ⟨⟨by omega, by omega⟩, fun v2 e2 => ?_⟩⟩, fun z => absurd z (by decide)⟩) (fun a => ⟨in0, fun z => absurd rfl z, fun _ => q0 (fun z => ?_) f⟩)
    · rw [tdn db.1, ← ds] at e2
      rw [e1, st_stae, e2, show Int.toNat (((c + 1 : Nat) : Int) - 1) = c by omega, show (((c + 1 : Nat) : Int) - 1) + (-1) = (c : Int) - 1 by omega]
      refine ih n _ (by omega) (by omega) (fun k hk => ?_) (fun k hk => ?_)
      · by_cases y : k = m - (c + 1)
        · rw [y]
          omega
        · exact hg k (by omega)
      · by_cases y : k = m - (c + 1)
        · rw [y, show m - 1 - (m - (c + 1)) = c by omega, up_eq]
          exact e
        · rw [up_ne (by omega)]
          exact hf k (by omega)
    · have := z (m - (c + 1)) (by omega)
      omega
theorem sx_takeFigures {σ : St} {x : Int} {Q : Int → St → Prop} (hx : inR x) (q1 : 1 ≤ ndg 10 x → ndg 10 x ≤ 5 → goodR x (ndg 10 x).toNat → ∀ f, figs x (ndg 10 x).toNat f → Q 1 (st (sta (st σ 0 0 4 0) 23 0 f) 0 0 4 (ndg 10 x))) (q0 : ¬ (1 ≤ ndg 10 x ∧ ndg 10 x ≤ 5 ∧ goodR x (ndg 10 x).toNat) → ∀ f, Q 0 (sta (st σ 0 0 4 0) 23 0 f)) : wp_X0_takeFigures σ x Q := by
  have nb := ndg_b 10 x
  intro s1 e1
  have hs : sta s1 23 0 (s1 23 0) = s1 := sta_self
  refine ⟨11, fig_loop 10 11 x 0 (by have := hx.2; omega) hx (by omega) (by omega) (by omega) ?_⟩
  rw [Int.zero_add]
  by_cases h6 : ¬ ndg 10 x ≤ 5
  · rw [show min 6 (ndg 10 x) = 6 by omega]
    refine ⟨⟨by decide, by decide⟩, fun c => absurd c (by decide), fun _ => ⟨⟨by decide, by decide⟩, fun c => absurd c (by decide), fun _ => ?_⟩⟩
    have q := q0 (fun z => h6 z.2.1) (s1 23 0)
    rw [← e1, hs] at q
    exact q
  rw [show min 6 (ndg 10 x) = ndg 10 x by omega]
  refine ⟨⟨by omega, by omega⟩, fun c => ?_, fun c => ⟨⟨by omega, by omega⟩, fun d v e => ⟨11, ?_⟩, fun d => ?_⟩⟩
  · have q := q0 (fun z => absurd z.1 (by omega)) (s1 23 0)
    rw [← e1, hs] at q
    exact q
  · have xp : 0 ≤ x := by
      rcases Int.lt_or_le x 0 with z | z
      · exfalso
        have e0 : ndg 10 x = 0 := by
          unfold ndg
          rw [if_pos (by omega)]
        omega
      · exact z
    have E := take_loop (σ := s1) (x := x) (m := (ndg 10 x).toNat) (Q := Q) ⟨xp, hx.2⟩ (by omega) (fun hg f hf => by
      have q := q1 (by omega) d hg f hf
      rw [← e1, show ndg 10 x = (((ndg 10 x).toNat : Nat) : Int) by omega] at q
      exact q) (fun hg f => by
      have q := q0 (fun z => hg z.2.2) f
      rw [← e1] at q
      exact q) (ndg 10 x).toNat 11 (s1 23 0) (by omega) (by omega) (fun k hk => absurd hk (by omega)) (fun k hk => absurd hk (by omega))
    rw [hs, Nat.sub_self, show dv x 0 = x from rfl, show (((ndg 10 x).toNat : Nat) : Int) = ndg 10 x by omega, ← e] at E
    exact E
  · have q := q0 (fun z => absurd z.2.1 d) (s1 23 0)
    rw [← e1, hs] at q
    exact q
