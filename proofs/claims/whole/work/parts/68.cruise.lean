/-! rows of cruises -/
/-- the last place below k that is no hole; the first from p on, of m -/
def dn (h : Nat → Int) : Nat → Int
  | 0 => -1
  | k + 1 => if h k = 0 then (k : Int) else dn h k
def un (h : Nat → Int) : Nat → Nat → Int
  | _, 0 => -1
  | p, m + 1 => if h p = 0 then (p : Int) else un h (p + 1) m
theorem dn_b (h : Nat → Int) (k : Nat) : -1 ≤ dn h k ∧ dn h k < k := by
  induction k with
  | zero => exact ⟨Int.le_refl _, by unfold dn; omega⟩
  | succ k ih =>
    unfold dn
    split <;> omega
theorem un_b (h : Nat → Int) (p m : Nat) : un h p m = -1 ∨ ((p : Int) ≤ un h p m ∧ un h p m < (p : Int) + m) := by
  induction m generalizing p with
  | zero => exact Or.inl rfl
  | succ m ih =>
    unfold un
    split
    · omega
    · have := ih (p + 1)
      omega
theorem dn_no {h : Nat → Int} {k : Nat} (e : dn h k = -1) : ∀ q, q < k → ¬ h q = 0 := by
  induction k with
  | zero => intro q hq; omega
  | succ k ih =>
    intro q hq
    unfold dn at e
    by_cases c : h k = 0
    · rw [if_pos c] at e
      omega
    · rw [if_neg c] at e
      by_cases d : q = k
      · rw [d]
        exact c
      · exact ih e q (by omega)
theorem un_no {h : Nat → Int} {p m : Nat} (e : un h p m = -1) : ∀ q, p ≤ q → q < p + m → ¬ h q = 0 := by
  induction m generalizing p with
  | zero => intro q h1 h2; omega
  | succ m ih =>
    intro q h1 h2
    unfold un at e
    by_cases c : h p = 0
    · rw [if_pos c] at e
      omega
    · rw [if_neg c] at e
      by_cases d : q = p
      · rw [d]
        exact c
      · exact ih e q (by omega) (by omega)
theorem dn_all {h : Nat → Int} {k : Nat} (e : ∀ q, q < k → ¬ h q = 0) : dn h k = -1 := by
  induction k with
  | zero => rfl
  | succ k ih =>
    unfold dn
    rw [if_neg (e k (by omega))]
    exact ih (fun q hq => e q (by omega))
theorem un_all {h : Nat → Int} {p m : Nat} (e : ∀ q, p ≤ q → q < p + m → ¬ h q = 0) : un h p m = -1 := by
  induction m generalizing p with
  | zero => rfl
  | succ m ih =>
    unfold un
    rw [if_neg (e p (by omega) (by omega))]
    exact ih (fun q h1 h2 => e q (by omega) (by omega))
/-- neither below nor above: there is no number in the row -/
theorem none_iff {h : Nat → Int} {p l : Nat} (hp : p < l) : (dn h (p + 1) = -1 ∧ un h p (l - p) = -1) ↔ un h 0 l = -1 := by
  constructor
  · intro ⟨a, b⟩
    refine un_all (fun q _ hq => ?_)
    by_cases c : q < p + 1
    · exact dn_no a q c
    · exact un_no b q (by omega) (by omega)
  · intro a
    exact ⟨dn_all (fun q hq => un_no a q (by omega) (by omega)), un_all (fun q h1 h2 => un_no a q (by omega) (by omega))⟩
def lofs (r : Nat) (b : Int) : Int := if b = -1 then -1 else (r : Int) * 40 + b
theorem dnx_loop {σ : St} {r : Nat} {Q : Int → St → Prop} (hr : r < 4) (hh : ∀ i, 0 ≤ σ 27 0 i ∧ σ 27 0 i ≤ 1) : ∀ (k n : Nat), k ≤ 40 → k < n → Q (lofs r (dn (fun q => σ 27 0 (40 * r + q)) k)) σ → wp_X2_lastUpTo_2 (wp_X2_lastUpTo_20 Q) Q n σ r ((k : Int) - 1) := by
  intro k
  induction k with
  | zero =>
    intro n hk hn q
    obtain ⟨n, rfl⟩ : ∃ n', n = n' + 1 := ⟨n - 1, by omega⟩
    unfold wp_X2_lastUpTo_2
    exact ⟨⟨by omega, by omega⟩, fun _ => q, fun z => absurd (by omega) z⟩
  | succ k ih =>
    intro n hk hn q
    obtain ⟨n, rfl⟩ : ∃ n', n = n' + 1 := ⟨n - 1, by omega⟩
    have hb := hh (40 * r + k)
    unfold dn at q
    unfold wp_X2_lastUpTo_2
    rw [show Int.toNat ((r : Int) * 40 + (((k + 1 : Nat) : Int) - 1)) = 40 * r + k by omega]
    refine ⟨⟨by omega, by omega⟩, fun z => absurd z (by omega), fun _ => ⟨by omega, by omega, ⟨by omega, by omega⟩, fun c => ?_, fun c => ?_⟩⟩
    · rw [if_neg c] at q
      rw [show (((k + 1 : Nat) : Int) - 1) + (-1) = (k : Int) - 1 by omega]
      exact ih n (by omega) (by omega) q
    · rw [if_pos c] at q
      unfold lofs at q
      rw [if_neg (by omega)] at q
      unfold wp_X2_lastUpTo_20
      rw [show (((k + 1 : Nat) : Int) - 1) = (k : Int) by omega]
      exact q
theorem unx_loop {σ : St} {r : Nat} {Q : Int → St → Prop} (hr : r < 4) (hl : σ 24 0 r ≤ 40) (hh : ∀ i, 0 ≤ σ 27 0 i ∧ σ 27 0 i ≤ 1) : ∀ (m p n : Nat), (p : Int) + m = σ 24 0 r → m < n → Q (lofs r (un (fun q => σ 27 0 (40 * r + q)) p m)) σ → wp_X2_nextFrom_2 (wp_X2_nextFrom_26 Q) Q n σ r p := by
  intro m
  induction m with
  | zero =>
    intro p n hp hn q
    obtain ⟨n, rfl⟩ : ∃ n', n = n' + 1 := ⟨n - 1, by omega⟩
    unfold wp_X2_nextFrom_2
    rw [Int.toNat_natCast]
    exact ⟨by omega, by omega, ⟨by omega, by omega⟩, ⟨by omega, by omega⟩, fun _ => q, fun z => absurd (by omega) z⟩
  | succ m ih =>
    intro p n hp hn q
    obtain ⟨n, rfl⟩ : ∃ n', n = n' + 1 := ⟨n - 1, by omega⟩
    have hb := hh (40 * r + p)
    unfold un at q
    unfold wp_X2_nextFrom_2
    rw [Int.toNat_natCast, show Int.toNat ((r : Int) * 40 + (p : Int)) = 40 * r + p by omega]
    refine ⟨by omega, by omega, ⟨by omega, by omega⟩, ⟨by omega, by omega⟩, fun z => absurd z (by omega), fun _ => ⟨by omega, by omega, ⟨by omega, by omega⟩, fun c => ?_, fun c => ?_⟩⟩
    · rw [if_neg c] at q
      rw [show ((p : Int) + 1) = ((p + 1 : Nat) : Int) by omega]
      exact ih (p + 1) n (by omega) (by omega) q
    · rw [if_pos c] at q
      unfold lofs at q
      rw [if_neg (by omega)] at q
      exact q
theorem sx_lastUpTo {σ : St} {r p : Nat} {Q : Int → St → Prop} (hr : r < 4) (hp : p < 40) (hh : ∀ i, 0 ≤ σ 27 0 i ∧ σ 27 0 i ≤ 1) (q : Q (lofs r (dn (fun q => σ 27 0 (40 * r + q)) (p + 1))) σ) : wp_X2_lastUpTo σ r p Q := by
  have e := dnx_loop hr hh (p + 1) 42 (by omega) (by omega) q
  rw [show (((p + 1 : Nat) : Int) - 1) = (p : Int) by omega] at e
  exact ⟨42, e⟩
theorem sx_nextFrom {σ : St} {r p : Nat} {Q : Int → St → Prop} (hr : r < 4) (hl : σ 24 0 r ≤ 40) (hp : (p : Int) ≤ σ 24 0 r) (hh : ∀ i, 0 ≤ σ 27 0 i ∧ σ 27 0 i ≤ 1) (q : Q (lofs r (un (fun q => σ 27 0 (40 * r + q)) p ((σ 24 0 r).toNat - p))) σ) : wp_X2_nextFrom σ r p Q :=
  ⟨42, unx_loop hr hl hh ((σ 24 0 r).toNat - p) p 42 (by omega) (by omega) q⟩
/-- what is told of a place, in eighths -/
def egv (e h : Nat → Int) (p l : Nat) : Int := if dn h (p + 1) = -1 then (if un h p (l - p) = -1 then 0 else e (un h p (l - p)).toNat) else if un h p (l - p) = -1 then e (dn h (p + 1)).toNat else (e (dn h (p + 1)).toNat + e (un h p (l - p)).toNat).tdiv 2
theorem egv_b {e h : Nat → Int} {p l : Nat} (he : ∀ i, -2000000 ≤ e i ∧ e i ≤ 2000000) : -2000000 ≤ egv e h p l ∧ egv e h p l ≤ 2000000 := by
  have td : ∀ x : Int, -4000000 ≤ x → x ≤ 4000000 → -2000000 ≤ x.tdiv 2 ∧ x.tdiv 2 ≤ 2000000 := by
    intro x h1 h2
    rcases Int.le_total 0 x with c | c
    · rw [Int.tdiv_eq_ediv_of_nonneg c]
      omega
    · have e1 : x.tdiv 2 = -((-x).tdiv 2) := by rw [Int.neg_tdiv, Int.neg_neg]
      rw [e1, Int.tdiv_eq_ediv_of_nonneg (by omega)]
      omega
  unfold egv
  split
  · split
    · omega
    · exact he _
  · split
    · exact he _
    · have a := he (dn h (p + 1)).toNat
      have b := he (un h p (l - p)).toNat
      exact td _ (by omega) (by omega)
theorem sx_eighthsAt {σ : St} {r p : Nat} {Q : Int → St → Prop} (hr : r < 4) (hl : σ 24 0 r ≤ 40) (hp : (p : Int) < σ 24 0 r) (hh : ∀ i, 0 ≤ σ 27 0 i ∧ σ 27 0 i ≤ 1) (he : ∀ i, -2000000 ≤ σ 26 0 i ∧ σ 26 0 i ≤ 2000000) (q : Q (egv (fun q => σ 26 0 (40 * r + q)) (fun q => σ 27 0 (40 * r + q)) p (σ 24 0 r).toNat) σ) : wp_X2_eighthsAt σ r p Q := by
  unfold egv at q
  unfold wp_X2_eighthsAt
  have b1 := dn_b (fun q => σ 27 0 (40 * r + q)) (p + 1)
  have b2 := un_b (fun q => σ 27 0 (40 * r + q)) p ((σ 24 0 r).toNat - p)
  refine sx_lastUpTo hr (by omega) hh (sx_nextFrom hr hl (by omega) hh ?_)
  generalize dn (fun q => σ 27 0 (40 * r + q)) (p + 1) = a at *
  generalize un (fun q => σ 27 0 (40 * r + q)) p ((σ 24 0 r).toNat - p) = b at *
  unfold lofs
  by_cases c : a = -1
  · rw [if_pos c] at q
    rw [if_pos c]
    by_cases d : b = -1
    · rw [if_pos d] at q
      rw [if_pos d]
      exact ⟨⟨by omega, by omega⟩, fun z => absurd rfl z, fun _ => ⟨⟨by omega, by omega⟩, fun z => absurd rfl z, fun _ => q⟩⟩
    · rw [if_neg d] at q
      rw [if_neg d]
      refine ⟨⟨by omega, by omega⟩, fun z => absurd rfl z, fun _ => ⟨⟨by omega, by omega⟩, fun _ => ⟨by omega, by omega, ?_⟩, fun z => absurd z (by omega)⟩⟩
      rw [show Int.toNat ((r : Int) * 40 + b) = 40 * r + b.toNat by omega]
      exact q
  · rw [if_neg c] at q
    rw [if_neg c]
    by_cases d : b = -1
    · rw [if_pos d] at q
      rw [if_pos d]
      refine ⟨⟨by omega, by omega⟩, fun _ => ⟨⟨by omega, by omega⟩, fun z => absurd rfl z, fun _ => ⟨by omega, by omega, ?_⟩⟩, fun z => absurd z (by omega)⟩
      rw [show Int.toNat ((r : Int) * 40 + a) = 40 * r + a.toNat by omega]
      exact q
    · rw [if_neg d] at q
      rw [if_neg d]
      rw [show Int.toNat ((r : Int) * 40 + a) = 40 * r + a.toNat by omega, show Int.toNat ((r : Int) * 40 + b) = 40 * r + b.toNat by omega]
      have x1 := he (40 * r + a.toNat)
      have x2 := he (40 * r + b.toNat)
      exact ⟨⟨by omega, by omega⟩, fun _ => ⟨⟨by omega, by omega⟩, fun _ => ⟨by omega, by omega, by omega, by omega, ⟨by omega, by omega⟩, q⟩, fun z => absurd z (by omega)⟩, fun z => absurd z (by omega)⟩
/-! sums and bounds of a row -/
def sumv (f : Nat → Int) : Nat → Int
  | 0 => 0
  | n + 1 => sumv f n + f n
def mnv (f : Nat → Int) : Nat → Int
  | 0 => f 0
  | n + 1 => min (mnv f n) (f (n + 1))
def mxv (f : Nat → Int) : Nat → Int
  | 0 => f 0
  | n + 1 => max (mxv f n) (f (n + 1))
theorem mnx_b {f : Nat → Int} (hf : ∀ i, -2000000 ≤ f i ∧ f i ≤ 2000000) (n : Nat) : (-2000000 ≤ mnv f n ∧ mnv f n ≤ 2000000) ∧ -2000000 ≤ mxv f n ∧ mxv f n ≤ 2000000 := by
  induction n with
  | zero => exact ⟨hf 0, hf 0⟩
  | succ n ih =>
    have := hf (n + 1)
    unfold mnv mxv
    omega
/-- a row's numbers, as the class has them -/
def rowv (σ : St) (r p : Nat) : Int := egv (fun q => σ 26 0 (40 * r + q)) (fun q => σ 27 0 (40 * r + q)) p (σ 24 0 r).toNat
theorem sumx_loop {σ : St} {r : Nat} {Q : Int → St → Prop} (hr : r < 4) (hl : σ 24 0 r ≤ 40) (hh : ∀ i, 0 ≤ σ 27 0 i ∧ σ 27 0 i ≤ 1) (he : ∀ i, -2000000 ≤ σ 26 0 i ∧ σ 26 0 i ≤ 2000000) (q : Q (sumv (rowv σ r) (σ 24 0 r).toNat) σ) : ∀ (k i n : Nat), (i : Int) + k = σ 24 0 r → k < n → wp_X2_sumOf_4 Q n σ r (sumv (rowv σ r) i) i := by
  intro k
  induction k with
  | zero =>
    intro i n hi hn
    obtain ⟨n, rfl⟩ : ∃ n', n = n' + 1 := ⟨n - 1, by omega⟩
    unfold wp_X2_sumOf_4
    rw [Int.toNat_natCast]
    rw [show (σ 24 0 r).toNat = i by omega] at q
    exact ⟨by omega, by omega, ⟨by omega, by omega⟩, ⟨by omega, by omega⟩, fun _ => q, fun z => absurd (by omega) z⟩
  | succ k ih =>
    intro i n hi hn
    obtain ⟨n, rfl⟩ : ∃ n', n = n' + 1 := ⟨n - 1, by omega⟩
    unfold wp_X2_sumOf_4
    rw [Int.toNat_natCast]
    refine ⟨by omega, by omega, ⟨by omega, by omega⟩, ⟨by omega, by omega⟩, fun z => absurd z (by omega), fun _ => sx_eighthsAt hr hl (by omega) hh he (fun v e => ?_)⟩
    rw [e, show ((i : Int) + 1) = ((i + 1 : Nat) : Int) by omega]
    exact ih (i + 1) n (by omega) (by omega)
theorem spr_loop {σ : St} {r : Nat} {Q : Int → St → Prop} (hr : r < 4) (hl : σ 24 0 r ≤ 40) (hh : ∀ i, 0 ≤ σ 27 0 i ∧ σ 27 0 i ≤ 1) (he : ∀ i, -2000000 ≤ σ 26 0 i ∧ σ 26 0 i ≤ 2000000) (q : Q (mxv (rowv σ r) ((σ 24 0 r).toNat - 1) - mnv (rowv σ r) ((σ 24 0 r).toNat - 1)) σ) : ∀ (k i n : Nat), (i : Int) + 1 + k = σ 24 0 r → k < n → wp_X2_spreadOf_12 Q n σ r (mnv (rowv σ r) i) (mxv (rowv σ r) i) ((i + 1 : Nat) : Int) := by
  have rb : ∀ p, -2000000 ≤ rowv σ r p ∧ rowv σ r p ≤ 2000000 := fun p => egv_b (fun i => he _)
  intro k
  induction k with
  | zero =>
    intro i n hi hn
    obtain ⟨n, rfl⟩ : ∃ n', n = n' + 1 := ⟨n - 1, by omega⟩
    unfold wp_X2_spreadOf_12
    rw [Int.toNat_natCast]
    rw [show (σ 24 0 r).toNat - 1 = i by omega] at q
    exact ⟨by omega, by omega, ⟨by omega, by omega⟩, ⟨by omega, by omega⟩, fun _ => q, fun z => absurd (by omega) z⟩
  | succ k ih =>
    intro i n hi hn
    obtain ⟨n, rfl⟩ : ∃ n', n = n' + 1 := ⟨n - 1, by omega⟩
    have b1 := mnx_b rb i
    have b2 := rb (i + 1)
    unfold wp_X2_spreadOf_12
    rw [Int.toNat_natCast]
    refine ⟨by omega, by omega, ⟨by omega, by omega⟩, ⟨by omega, by omega⟩, fun z => absurd z (by omega), fun _ => sx_eighthsAt hr hl (by omega) hh he (j_min ⟨by omega, by omega⟩ ?_ (j_max ⟨by omega, by omega⟩ ?_ ?_))⟩
    · show inR (rowv σ r (i + 1))
      exact ⟨by omega, by omega⟩
    · show inR (rowv σ r (i + 1))
      exact ⟨by omega, by omega⟩
    · rw [show (((i + 1 : Nat) : Int) + 1) = ((i + 1 + 1 : Nat) : Int) by omega]
      exact ih (i + 1) n (by omega) (by omega)
