/-! numbers that are checked -/
theorem ixor_pos {x y : Int} (hx : inR x) (hy : inR y) (hx0 : 0 ≤ x) (hy0 : 0 ≤ y) : 0 ≤ i_ixor x y := by
  have e := xor_n (a := x.toNat) (b := y.toNat) (m := 31) (by have := hx.2; omega) (by have := hy.2; omega) (by decide)
  rw [show ((x.toNat : Nat) : Int) = x by omega, show ((y.toNat : Nat) : Int) = y by omega] at e
  rw [e.1]
  omega
theorem ixor_neg {x y : Int} (hx : inR x) (hy : inR y) (hx0 : x < 0) (hy0 : 0 ≤ y) : i_ixor x y < 0 := by
  have a : (iv x).toBitVec.toInt = x := iv_toInt hx
  have b : (iv y).toBitVec.toInt = y := iv_toInt hy
  have ma : (iv x).toBitVec.msb = true := by
    rw [BitVec.msb_eq_toInt, a]
    exact decide_eq_true hx0
  have mb : (iv y).toBitVec.msb = false := by
    rw [BitVec.msb_eq_toInt, b]
    exact decide_eq_false (by omega)
  have m : (iv x ^^^ iv y).toBitVec.msb = true := by
    rw [Int32.toBitVec_xor, BitVec.msb_xor, ma, mb]
    rfl
  rw [BitVec.msb_eq_toInt] at m
  exact of_decide_eq_true m
theorem j_floorMod {σ : St} {x : Int} {Q : Int → St → Prop} (hx : -100000 ≤ x ∧ x ≤ 100000) (q : Q (x % 65537) σ) : wp_J9_floorMod_7cf53 σ x 65537 Q := by
  have hR : inR x := ⟨by omega, by omega⟩
  have hM : inR 65537 := ⟨by decide, by decide⟩
  refine ⟨hR, hM, by decide, by decide, fun v e => ?_⟩
  rcases Int.lt_or_le x 0 with c | c
  · have n := ixor_neg hR hM c (by decide)
    have e2 : x.tmod 65537 = -((-x) % 65537) := by
      rw [← tmn (show 0 ≤ -x by omega), Int.neg_tmod, Int.neg_neg]
    rw [e2] at e
    refine ⟨inR_of _, fun z => absurd z (by omega), fun _ => ⟨⟨by omega, by omega⟩, fun z => ?_, fun z => ?_⟩⟩
    · rw [show v = x % 65537 by omega]
      exact q
    · rw [show v + 65537 = x % 65537 by omega]
      exact q
  · have n := ixor_pos hR hM c (by decide)
    rw [tmn c] at e
    refine ⟨inR_of _, fun _ => by rw [e]; exact q, fun z => absurd n z⟩
def S0 (f : Nat → Int) : Int := f 0 + f 1 + f 2 + f 3 + f 4
def S1 (f : Nat → Int) : Int := f 0 + 2 * f 1 + 3 * f 2 + 4 * f 3 + 5 * f 4
def pw (w : Int) (f : Nat → Int) (k : Nat) : Int := if w = 0 then f k else f k * ((k : Int) + 1)
theorem pw_b {w : Int} {f : Nat → Int} {k : Nat} (hk : k < 5) (h : 0 ≤ f k ∧ f k ≤ 65536) : 0 ≤ pw w f k ∧ pw w f k ≤ 327680 := by
  unfold pw
  split
  · omega
  · rcases (show k = 0 ∨ k = 1 ∨ k = 2 ∨ k = 3 ∨ k = 4 by omega) with rfl | rfl | rfl | rfl | rfl <;> omega
theorem pw_s {w : Int} {f : Nat → Int} : sumv (pw w f) 5 = if w = 0 then S0 f else S1 f := by
  show 0 + pw w f 0 + pw w f 1 + pw w f 2 + pw w f 3 + pw w f 4 = _
  unfold pw S0 S1
  split <;> omega
theorem pws_b {w : Int} {f : Nat → Int} (h : ∀ k, k < 5 → 0 ≤ f k ∧ f k ≤ 65536) : ∀ i, i ≤ 5 → 0 ≤ sumv (pw w f) i ∧ sumv (pw w f) i ≤ 327680 * i := by
  intro i
  induction i with
  | zero => intro _; exact ⟨Int.le_refl _, Int.le_refl _⟩
  | succ i ih =>
    intro hi
    have a := ih (by omega)
    have b := pw_b (w := w) (f := f) (k := i) (by omega) (h i (by omega))
    show 0 ≤ sumv (pw w f) i + pw w f i ∧ sumv (pw w f) i + pw w f i ≤ _
    omega
theorem sumx5_loop {σ : St} {j : Nat} {w : Int} {Q : Int → St → Prop} (hl : σ 50 4 j ≠ 0) (hw : w = 0 ∨ w = 1) (h : ∀ k, k < 5 → 0 ≤ σ 38 j k ∧ σ 38 j k ≤ 65536) (q : Q (sumv (pw w (σ 38 j)) 5 % 65537) σ) : ∀ (k i n : Nat), i + k = 5 → k < n → wp_X4_sumNow_4 (wp_X4_sumNow_41 Q) Q n σ j w (sumv (pw w (σ 38 j)) i) i := by
  intro k
  induction k with
  | zero =>
    intro i n hi hn
    obtain ⟨n, rfl⟩ : ∃ n', n = n' + 1 := ⟨n - 1, by omega⟩
    have b := pws_b (w := w) h 5 (by omega)
    unfold wp_X4_sumNow_4 wp_X4_sumNow_41
    rw [show i = 5 by omega, tmn b.1]
    exact ⟨⟨by omega, by omega⟩, fun _ => ⟨⟨by omega, by omega⟩, q⟩, fun z => absurd (by omega) z⟩
  | succ k ih =>
    intro i n hi hn
    obtain ⟨n, rfl⟩ : ∃ n', n = n' + 1 := ⟨n - 1, by omega⟩
    have nx := ih (i + 1) n (by omega) (by omega)
    have ne : sumv (pw w (σ 38 j)) (i + 1) = sumv (pw w (σ 38 j)) i + (if w = 0 then σ 38 j i else σ 38 j i * ((i : Int) + 1)) := rfl
    rw [ne] at nx
    unfold wp_X4_sumNow_4 wp_X4_sumNow_33
    rw [Int.toNat_natCast, show ((i : Int) + 1) = ((i + 1 : Nat) : Int) by omega]
    refine ⟨⟨by omega, by omega⟩, fun z => absurd z (by omega), fun _ => ⟨⟨by omega, by omega⟩, fun c => ⟨hl, hl, by omega, by omega, fun v e => ?_⟩, fun c => ⟨hl, hl, by omega, by omega, fun v e => ?_⟩⟩⟩
    · rw [if_pos c] at nx
      rw [e]
      exact nx
    · rw [if_neg c] at nx
      rw [e]
      exact nx
theorem sx_sumNow {σ : St} {j : Nat} {w : Int} {Q : Int → St → Prop} (hl : σ 50 4 j ≠ 0) (hw : w = 0 ∨ w = 1) (h : ∀ k, k < 5 → 0 ≤ σ 38 j k ∧ σ 38 j k ≤ 65536) (q : Q ((if w = 0 then S0 (σ 38 j) else S1 (σ 38 j)) % 65537) σ) : wp_X4_sumNow σ j w Q := by
  rw [← pw_s] at q
  exact ⟨6, sumx5_loop hl hw h q 5 0 6 (by omega) (by omega)⟩
theorem summ5_loop {σ : St} {l : Nat} {w : Int} {Q : Int → St → Prop} (hl : l < 300) (hw : w = 0 ∨ w = 1) (h : ∀ k, k < 5 → 0 ≤ σ 106 0 (5 * l + k) ∧ σ 106 0 (5 * l + k) ≤ 65536) (q : Q (sumv (pw w (fun k => σ 106 0 (5 * l + k))) 5 % 65537) σ) : ∀ (k i n : Nat), i + k = 5 → k < n → wp_X12_sums_5 Q n σ l w (sumv (pw w (fun k => σ 106 0 (5 * l + k))) i % 65537) i := by
  intro k
  induction k with
  | zero =>
    intro i n hi hn
    obtain ⟨n, rfl⟩ : ∃ n', n = n' + 1 := ⟨n - 1, by omega⟩
    unfold wp_X12_sums_5
    rw [show i = 5 by omega]
    exact ⟨⟨by omega, by omega⟩, fun _ => q, fun z => absurd (by omega) z⟩
  | succ k ih =>
    intro i n hi hn
    obtain ⟨n, rfl⟩ : ∃ n', n = n' + 1 := ⟨n - 1, by omega⟩
    have nx := ih (i + 1) n (by omega) (by omega)
    have pb := pw_b (w := w) (f := fun k => σ 106 0 (5 * l + k)) (k := i) (by omega) (h i (by omega))
    have sb := pws_b (w := w) (f := fun k => σ 106 0 (5 * l + k)) h i (by omega)
    have ne : sumv (pw w (fun k => σ 106 0 (5 * l + k))) (i + 1) = sumv (pw w (fun k => σ 106 0 (5 * l + k))) i + pw w (fun k => σ 106 0 (5 * l + k)) i := rfl
    rw [ne] at nx
    have key : ∀ y0 : Int, σ 106 0 (5 * l + i) * y0 = pw w (fun k => σ 106 0 (5 * l + k)) i → wp_X12_sums_35 (fun σ x1 x2 x3 x4 => wp_X12_sums_5 Q n σ x1 x2 x3 x4) Q σ l w i y0 (σ 106 0 (5 * l + i)) (sumv (pw w (fun k => σ 106 0 (5 * l + k))) i % 65537) := by
      intro y0 hy
      unfold wp_X12_sums_35
      rw [hy, show ((i : Int) + 1) = ((i + 1 : Nat) : Int) by omega]
      refine ⟨⟨by omega, by omega⟩, fun v e => ?_⟩
      rw [tmn (by omega)] at e
      rw [e, show (sumv (pw w (fun k => σ 106 0 (5 * l + k))) i % 65537 + pw w (fun k => σ 106 0 (5 * l + k)) i) % 65537 = (sumv (pw w (fun k => σ 106 0 (5 * l + k))) i + pw w (fun k => σ 106 0 (5 * l + k)) i) % 65537 by omega]
      exact nx
    unfold wp_X12_sums_5
    rw [show Int.toNat (5 * (l : Int) + (i : Int)) = 5 * l + i by omega]
    refine ⟨⟨by omega, by omega⟩, fun z => absurd z (by omega), fun _ => ⟨by omega, by omega, ⟨by omega, by omega⟩, fun c => key _ ?_, fun c => key _ ?_⟩⟩
    · unfold pw
      rw [if_neg c]
    · unfold pw
      rw [if_pos c, Int.mul_one]
theorem sm_sums {σ : St} {l : Nat} {w : Int} {Q : Int → St → Prop} (hl : l < 300) (hw : w = 0 ∨ w = 1) (h : ∀ k, k < 5 → 0 ≤ σ 106 0 (5 * l + k) ∧ σ 106 0 (5 * l + k) ≤ 65536) (q : Q ((if w = 0 then S0 (fun k => σ 106 0 (5 * l + k)) else S1 (fun k => σ 106 0 (5 * l + k))) % 65537) σ) : wp_X12_sums σ l w Q := by
  rw [← pw_s] at q
  exact ⟨6, summ5_loop hl hw h q 5 0 6 (by omega) (by omega)⟩
/-- what a log's sums lack -/
def lack0 (s1 : Int) (f : Nat → Int) : Int := (s1 - S0 f % 65537) % 65537
def lack1 (s2 : Int) (f : Nat → Int) : Int := (s2 - S1 f % 65537) % 65537
theorem sx_lacking {σ : St} {j : Nat} {Q : Int → St → Prop} (hl : σ 50 4 j ≠ 0) (hs : 0 ≤ σ 4 j 14 ∧ σ 4 j 14 < 65537) (h : ∀ k, k < 5 → 0 ≤ σ 38 j k ∧ σ 38 j k ≤ 65536) (q : Q (lack0 (σ 4 j 14) (σ 38 j)) σ) : wp_X4_lackingOfAll σ j Q := by
  refine ⟨hl, hl, sx_sumNow hl (Or.inl rfl) h ?_⟩
  rw [if_pos rfl]
  exact j_floorMod (by omega) q
theorem sx_rightNumber {σ : St} {j p : Nat} {Q : Int → St → Prop} (hp : p < 5) (hl : σ 50 4 j ≠ 0) (hs : 0 ≤ σ 4 j 14 ∧ σ 4 j 14 < 65537) (h : ∀ k, k < 5 → 0 ≤ σ 38 j k ∧ σ 38 j k ≤ 65536) (q : Q ((σ 38 j p + lack0 (σ 4 j 14) (σ 38 j)) % 65537) σ) : wp_X4_rightNumber σ j p Q := by
  have hb := h p hp
  unfold wp_X4_rightNumber
  rw [Int.toNat_natCast]
  refine ⟨hl, hl, by omega, by omega, hl, sx_lacking hl hs h ?_⟩
  have lb : 0 ≤ lack0 (σ 4 j 14) (σ 38 j) ∧ lack0 (σ 4 j 14) (σ 38 j) < 65537 := by unfold lack0; omega
  rw [tmn (by omega)]
  exact ⟨⟨by omega, by omega⟩, q⟩
def okP (f : Nat → Int) (L L2 : Int) (k : Nat) : Prop := (L * ((k : Int) + 1)) % 65537 = L2 ∧ (f k + L) % 65537 ≤ 65535
theorem faul_loop {σ : St} {j : Nat} {L2 : Int} {Q : Int → St → Prop} (hl : σ 50 4 j ≠ 0) (hs : 0 ≤ σ 4 j 14 ∧ σ 4 j 14 < 65537) (h : ∀ k, k < 5 → 0 ≤ σ 38 j k ∧ σ 38 j k ≤ 65536) (h2 : inR L2) (q : ∀ r, first 5 (okP (σ 38 j) (lack0 (σ 4 j 14) (σ 38 j)) L2) r → Q (if r = -1 then -2 else r) σ) : ∀ (k i n : Nat), i + k = 5 → k < n → (∀ k' : Nat, k' < i → ¬ okP (σ 38 j) (lack0 (σ 4 j 14) (σ 38 j)) L2 k') → wp_X4_faultyPlace_38 Q n σ j (lack0 (σ 4 j 14) (σ 38 j)) L2 i := by
  have lb : 0 ≤ lack0 (σ 4 j 14) (σ 38 j) ∧ lack0 (σ 4 j 14) (σ 38 j) < 65537 := by unfold lack0; omega
  intro k
  induction k with
  | zero =>
    intro i n hi hn hf
    obtain ⟨n, rfl⟩ : ∃ n', n = n' + 1 := ⟨n - 1, by omega⟩
    have q0 := q (-1) (Or.inl ⟨rfl, fun k' hk => hf k' (by omega)⟩)
    rw [if_pos rfl] at q0
    unfold wp_X4_faultyPlace_38
    exact ⟨⟨by omega, by omega⟩, fun _ => q0, fun z => absurd (by omega) z⟩
  | succ k ih =>
    intro i n hi hn hf
    obtain ⟨n, rfl⟩ : ∃ n', n = n' + 1 := ⟨n - 1, by omega⟩
    have hb := h i (by omega)
    have mb : 0 ≤ lack0 (σ 4 j 14) (σ 38 j) * ((i : Int) + 1) ∧ lack0 (σ 4 j 14) (σ 38 j) * ((i : Int) + 1) ≤ 400000 := by
      rcases (show i = 0 ∨ i = 1 ∨ i = 2 ∨ i = 3 ∨ i = 4 by omega) with rfl | rfl | rfl | rfl | rfl <;> omega
    have nx : ¬ okP (σ 38 j) (lack0 (σ 4 j 14) (σ 38 j)) L2 i → wp_X4_faultyPlace_67 (fun σ j0 x1 x2 x3 => wp_X4_faultyPlace_38 Q n σ j0 x1 x2 x3) Q σ j (lack0 (σ 4 j 14) (σ 38 j)) L2 i := by
      intro hno
      unfold wp_X4_faultyPlace_67
      rw [show ((i : Int) + 1) = ((i + 1 : Nat) : Int) by omega]
      refine ih (i + 1) n (by omega) (by omega) (fun k' hk => ?_)
      by_cases e : k' = i
      · rw [e]
        exact hno
      · exact hf k' (by omega)
    unfold wp_X4_faultyPlace_38
    rw [tmn mb.1]
    refine ⟨⟨by omega, by omega⟩, fun z => absurd z (by omega), fun _ => ⟨⟨by omega, by omega⟩, ⟨by omega, by omega⟩, h2, fun c => nx (fun z => c z.1), fun c => ⟨hl, sx_rightNumber (by omega) hl hs h ⟨⟨by omega, by omega⟩, fun d => nx (fun z => absurd z.2 (by omega)), fun d => ?_⟩⟩⟩⟩
    have q1 := q (i : Int) (Or.inr ⟨i, rfl, by omega, ⟨c, by omega⟩, hf⟩)
    rw [if_neg (by omega)] at q1
    exact q1
/-- the place that can be put right, of the class -/
def FpX (s1 s2 : Int) (f : Nat → Int) (r : Int) : Prop := (lack0 s1 f = 0 ∧ lack1 s2 f = 0 ∧ r = -1) ∨ (lack0 s1 f = 0 ∧ ¬ lack1 s2 f = 0 ∧ r = -2) ∨ (¬ lack0 s1 f = 0 ∧ ∃ r0, first 5 (okP f (lack0 s1 f) (lack1 s2 f)) r0 ∧ r = if r0 = -1 then -2 else r0)
theorem sx_faultyPlace {σ : St} {j : Nat} {Q : Int → St → Prop} (hl : σ 50 4 j ≠ 0) (hs : 0 ≤ σ 4 j 14 ∧ σ 4 j 14 < 65537) (hs2 : 0 ≤ σ 4 j 15 ∧ σ 4 j 15 < 65537) (h : ∀ k, k < 5 → 0 ≤ σ 38 j k ∧ σ 38 j k ≤ 65536) (q : ∀ r, FpX (σ 4 j 14) (σ 4 j 15) (σ 38 j) r → Q r σ) : wp_X4_faultyPlace σ j Q := by
  have lb : 0 ≤ lack0 (σ 4 j 14) (σ 38 j) ∧ lack0 (σ 4 j 14) (σ 38 j) < 65537 := by unfold lack0; omega
  have lb2 : 0 ≤ lack1 (σ 4 j 15) (σ 38 j) ∧ lack1 (σ 4 j 15) (σ 38 j) < 65537 := by unfold lack1; omega
  refine ⟨hl, sx_lacking hl hs h ⟨hl, hl, sx_sumNow hl (Or.inr rfl) h ?_⟩⟩
  rw [if_neg (by decide)]
  refine j_floorMod (by omega) ?_
  show inR _ ∧ (¬ _ → ∃ n38, wp_X4_faultyPlace_38 Q n38 σ j _ (lack1 (σ 4 j 15) (σ 38 j)) 0) ∧ (_ → inR (lack1 (σ 4 j 15) (σ 38 j)) ∧ (¬ lack1 (σ 4 j 15) (σ 38 j) = 0 → _) ∧ (lack1 (σ 4 j 15) (σ 38 j) = 0 → _))
  refine ⟨⟨by omega, by omega⟩, fun c => ⟨6, ?_⟩, fun c => ⟨⟨by omega, by omega⟩, fun d => q _ (Or.inr (Or.inl ⟨c, d, rfl⟩)), fun d => q _ (Or.inl ⟨c, d, rfl⟩)⟩⟩
  exact faul_loop hl hs h ⟨by omega, by omega⟩ (fun r hr => q _ (Or.inr (Or.inr ⟨c, r, hr, rfl⟩))) 5 0 6 (by omega) (by omega) (fun k' hk => absurd hk (by omega))
