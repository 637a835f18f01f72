/-! cuts for forty years: the best cut in a state -/
theorem ix_d {m x y : Nat} (h : y < m) : (x * m + y) / m = x ∧ (x * m + y) % m = y := by
  have hm : 0 < m := by omega
  rw [Nat.mul_comm, Nat.mul_add_div hm, Nat.mul_add_mod, Nat.div_eq_of_lt h, Nat.mod_eq_of_lt h]
  exact ⟨Nat.add_zero x, rfl⟩
def mxw (f : Nat → Int) : Nat → Int
  | 0 => -1
  | n + 1 => max (mxw f n) (f n)
theorem mxw_le {f : Nat → Int} : ∀ n j, j < n → f j ≤ mxw f n := by
  intro n
  induction n with
  | zero => intro j hj; exact absurd hj (by omega)
  | succ n ih =>
    intro j hj
    show f j ≤ max (mxw f n) (f n)
    by_cases e : j = n
    · rw [e]; exact Int.le_max_right _ _
    · exact Int.le_trans (ih j (by omega)) (Int.le_max_left _ _)
theorem mxw_b {f : Nat → Int} {B : Int} (hB : -1 ≤ B) : ∀ n, (∀ j, j < n → f j ≤ B) → -1 ≤ mxw f n ∧ mxw f n ≤ B := by
  intro n
  induction n with
  | zero => intro _; exact ⟨Int.le_refl _, hB⟩
  | succ n ih =>
    intro h
    have a := ih (fun j hj => h j (by omega))
    have b := h n (by omega)
    show -1 ≤ max (mxw f n) (f n) ∧ max (mxw f n) (f n) ≤ B
    exact ⟨Int.le_trans a.1 (Int.le_max_left _ _), Int.max_le.2 ⟨a.2, b⟩⟩
theorem mxw_congr {f g : Nat → Int} : ∀ n, (∀ j, j < n → f j = g j) → mxw f n = mxw g n := by
  intro n
  induction n with
  | zero => intro _; rfl
  | succ n ih =>
    intro h
    show max (mxw f n) (f n) = max (mxw g n) (g n)
    rw [ih (fun j hj => h j (by omega)), h n (by omega)]
theorem mxw_stop {f : Nat → Int} {n : Nat} : ∀ k, (∀ j, n ≤ j → j < n + k → f j = -1) → mxw f (n + k) = mxw f n := by
  intro k
  induction k with
  | zero => intro _; rfl
  | succ k ih =>
    intro h
    have a := ih (fun j h1 h2 => h j h1 (by omega))
    show max (mxw f (n + k)) (f (n + k)) = mxw f n
    rw [a, h (n + k) (by omega) (by omega)]
    have l : -1 ≤ mxw f n := by
      cases n with
      | zero => exact Int.le_refl _
      | succ n =>
        clear ih a h
        induction n with
        | zero => exact Int.le_max_left _ _
        | succ n ih2 => exact Int.le_trans ih2 (Int.le_max_left _ _)
    exact Int.max_eq_left l
/-- the first of the greatest -/
def FM (f : Nat → Int) (n j : Nat) : Prop := j < n ∧ f j = mxw f n ∧ ∀ i, i < j → f i < f j
theorem FM_uni {f g : Nat → Int} {n j j' : Nat} (e : ∀ i, i < n → g i = f i) (h : FM f n j) (h' : FM g n j') : j' = j := by
  obtain ⟨a1, a2, a3⟩ := h
  obtain ⟨b1, b2, b3⟩ := h'
  have em : mxw g n = mxw f n := mxw_congr n e
  rcases (show j' < j ∨ j' = j ∨ j < j' by omega) with z | z | z
  · have := a3 j' z
    have := e j' b1
    omega
  · exact z
  · have := b3 j z
    have := e j a1
    have := e j' b1
    omega
/-- the yield of a cut with what comes behind it -/
def wv (l g : Int) (R : Nat → Int) (x y : Nat) : Int := if l ≤ 5 * (x : Int) + 2 * y ∧ 5 * (x : Int) + 2 * y ≤ g ∧ ¬ R (x + y) = -1 then 5 * (x : Int) + 2 * y + R (x + y) else -1
def fv (l g : Int) (R : Nat → Int) (m i : Nat) : Int := wv l g R (i / m) (i % m)
theorem fv_ix {l g : Int} {R : Nat → Int} {m x y : Nat} (h : y < m) : fv l g R m (x * m + y) = wv l g R x y := by
  unfold fv
  rw [(ix_d h).1, (ix_d h).2]
/-- the reference's number of a state -/
def stI (b0 b1 b2 : Nat) : Nat := 169 * b0 + 13 * b1 + b2
/-- the class numbers its states without gaps -/
def tri : Nat → Nat
  | 0 => 0
  | n + 1 => tri n + (n + 1)
def tet : Nat → Nat
  | 0 => 0
  | n + 1 => tet n + tri (n + 1)
theorem tri_s (n : Nat) : tri (n + 1) = tri n + (n + 1) := rfl
theorem tet_s (n : Nat) : tet (n + 1) = tet n + tri (n + 1) := rfl
theorem tri_up (a : Nat) : ∀ k, tri a ≤ tri (a + k) := by
  intro k
  induction k with
  | zero => exact Nat.le_refl _
  | succ k ih =>
    have e := tri_s (a + k)
    show tri a ≤ tri (a + k + 1)
    omega
theorem tet_up (a : Nat) : ∀ k, tet a ≤ tet (a + k) := by
  intro k
  induction k with
  | zero => exact Nat.le_refl _
  | succ k ih =>
    have e := tet_s (a + k)
    show tet a ≤ tet (a + k + 1)
    omega
theorem tri_mono {a b : Nat} (h : a ≤ b) : tri a ≤ tri b := by
  obtain ⟨k, rfl⟩ : ∃ k, b = a + k := ⟨b - a, by omega⟩
  exact tri_up a k
theorem tet_mono {a b : Nat} (h : a ≤ b) : tet a ≤ tet b := by
  obtain ⟨k, rfl⟩ : ∃ k, b = a + k := ⟨b - a, by omega⟩
  exact tet_up a k
theorem tri_inj {s t b c : Nat} (hb : b ≤ s) (hc : c ≤ t) (e : tri s + b = tri t + c) : s = t ∧ b = c := by
  have e1 := tri_s s
  have e2 := tri_s t
  rcases (show s < t ∨ s = t ∨ t < s by omega) with z | z | z
  · have := tri_mono (show s + 1 ≤ t by omega)
    omega
  · subst z
    exact ⟨rfl, by omega⟩
  · have := tri_mono (show t + 1 ≤ s by omega)
    omega
theorem tet_inj {s t b c : Nat} (hb : b < tri (s + 1)) (hc : c < tri (t + 1)) (e : tet s + b = tet t + c) : s = t ∧ b = c := by
  have e1 := tet_s s
  have e2 := tet_s t
  rcases (show s < t ∨ s = t ∨ t < s by omega) with z | z | z
  · have := tet_mono (show s + 1 ≤ t by omega)
    omega
  · subst z
    exact ⟨rfl, by omega⟩
  · have := tet_mono (show t + 1 ≤ s by omega)
    omega
theorem tri2 : ∀ n : Nat, n < 13 → (n : Int) * ((n : Int) + 1) = 2 * ((tri n : Nat) : Int) := by decide
theorem tet6 : ∀ n : Nat, n < 13 → (n : Int) * ((n : Int) + 1) * ((n : Int) + 2) = 6 * ((tet n : Nat) : Int) := by decide
theorem tri_b : ∀ n : Nat, n < 13 → tri n < 455 := by decide
def stX (b0 b1 b2 : Nat) : Nat := tet (b0 + b1 + b2) + (tri (b0 + b1) + b0)
theorem stX_in (b0 b1 b2 : Nat) : tri (b0 + b1) + b0 < tri (b0 + b1 + b2 + 1) := by
  have e := tri_s (b0 + b1)
  have := tri_mono (show b0 + b1 + 1 ≤ b0 + b1 + b2 + 1 by omega)
  omega
theorem stX_b {b0 b1 b2 : Nat} (h : b0 + b1 + b2 ≤ 12) : stX b0 b1 b2 < 455 := by
  have a1 := stX_in b0 b1 b2
  have a2 := tet_s (b0 + b1 + b2)
  have a3 := tet_mono (show b0 + b1 + b2 + 1 ≤ 13 by omega)
  have a4 : tet 13 = 455 := by decide
  unfold stX
  omega
theorem stX_inj {c0 c1 c2 b0 b1 b2 : Nat} (e : stX c0 c1 c2 = stX b0 b1 b2) : c0 = b0 ∧ c1 = b1 ∧ c2 = b2 := by
  unfold stX at e
  obtain ⟨e1, e2⟩ := tet_inj (stX_in c0 c1 c2) (stX_in b0 b1 b2) e
  obtain ⟨e3, e4⟩ := tri_inj (show c0 ≤ c0 + c1 by omega) (show b0 ≤ b0 + b1 by omega) e2
  exact ⟨e4, by omega, by omega⟩
theorem sx_state {σ : St} {b0 b1 b2 : Nat} {Q : Int → St → Prop} (h : b0 + b1 + b2 ≤ 12) (q : Q ((stX b0 b1 b2 : Nat) : Int) σ) : wp_X5_state σ b0 b1 b2 Q := by
  have t1 := tri2 (b0 + b1) (by omega)
  have t2 := tet6 (b0 + b1 + b2) (by omega)
  have u1 := tri_b (b0 + b1) (by omega)
  have u2 := stX_b h
  have u3 : tet (b0 + b1 + b2) ≤ stX b0 b1 b2 := Nat.le_add_right _ _
  intro v1 e1 v2 e2
  have e1b : v1 = ((b0 + b1 : Nat) : Int) := by omega
  have e2b : v2 = ((b0 + b1 + b2 : Nat) : Int) := by omega
  rw [e1b, e2b, t1, t2, Int.tdiv_eq_ediv_of_nonneg (by omega), Int.tdiv_eq_ediv_of_nonneg (by omega)]
  refine ⟨⟨by omega, by omega⟩, ⟨by omega, by omega⟩, ?_⟩
  rw [show 6 * ((tet (b0 + b1 + b2) : Nat) : Int) / 6 + 2 * ((tri (b0 + b1) : Nat) : Int) / 2 + (b0 : Int) = ((stX b0 b1 b2 : Nat) : Int) by unfold stX; omega]
  exact q
/-- what is kept of the best so far -/
def BI (S : St) (f : Nat → Int) (m i : Nat) (v : Int) : Prop := v = mxw f i ∧ (¬ v = -1 → ∃ j : Nat, j < i ∧ S 5 0 13 = ((j / m : Nat) : Int) ∧ S 5 0 14 = ((j % m : Nat) : Int) ∧ f j = v ∧ ∀ i', i' < j → f i' < f j)
def FrB (S S' : St) : Prop := (∀ k, ¬ k = 5 → S' k = S k) ∧ ∀ i, ¬ i = 13 → ¬ i = 14 → S' 5 0 i = S 5 0 i
theorem bc36_loop {σ : St} {p b0 b1 b2 b3 x m : Nat} {l g : Int} {R : Nat → Int} {K : St → Int → Int → Int → Int → Int → Int → Int → Int → Int → Prop} {Q : Int → St → Prop} (hp : p < 8) (hm : m = b2 + 1) (hx : x ≤ b3) (hA : b0 + b1 + b2 + b3 ≤ 12) (hl : 0 ≤ l ∧ l ≤ 60) (hg : 0 ≤ g ∧ g ≤ 60) (hR : ∀ t, t ≤ b2 + b3 → σ 53 (p + 1) (stX t b0 b1) = R t ∧ -1 ≤ R t ∧ R t ≤ 1000)
    (q : ∀ S v, BI S (fv l g R m) m (x * m + m) v → FrB σ S → K S p b0 b1 b2 l g b3 v x) :
    ∀ (k y n : Nat) (S : St) (v : Int), y + k = m → k < n → BI S (fv l g R m) m (x * m + y) v → FrB σ S → wp_X5_bestCut_36 K Q n S p b0 b1 b2 l g b3 v x y := by
  intro k
  induction k with
  | zero =>
    intro y n S v hk hn hB hF
    obtain ⟨n, rfl⟩ : ∃ n', n = n' + 1 := ⟨n - 1, by omega⟩
    have e : y = m := by omega
    subst e
    unfold wp_X5_bestCut_36
    exact ⟨⟨by omega, by omega⟩, ⟨by omega, by omega⟩, fun _ => q S v hB hF, fun z => absurd (by omega) z⟩
  | succ k ih =>
    intro y n S v hk hn hB hF
    obtain ⟨n, rfl⟩ : ∃ n', n = n' + 1 := ⟨n - 1, by omega⟩
    obtain ⟨hv, hB2⟩ := hB
    obtain ⟨r1, r2, r3⟩ := hR (x + y) (by omega)
    have f53 : S 53 = σ 53 := hF.1 53 (by decide)
    have fi : fv l g R m (x * m + y) = wv l g R x y := fv_ix (by omega)
    have fb : ∀ j, j < x * m + y → fv l g R m j ≤ mxw (fv l g R m) (x * m + y) := mxw_le _
    have vlo : -1 ≤ v ∧ v ≤ 2000 := by
      rw [hv]
      refine mxw_b (by decide) _ (fun j hj => ?_)
      unfold fv wv
      have md : j % m < m := Nat.mod_lt _ (by omega)
      have dd : j / m ≤ x := by
        have : j / m < x + 1 := Nat.div_lt_of_lt_mul (by rw [Nat.mul_add, Nat.mul_comm]; omega)
        omega
      have rr := hR (j / m + j % m) (by omega)
      split <;> omega
    have en : x * m + (y + 1) = x * m + y + 1 := by omega
    have stay : wv l g R x y ≤ v → wp_X5_bestCut_36 K Q n S p b0 b1 b2 l g b3 v x ((y + 1 : Nat) : Int) := by
      intro z
      refine ih (y + 1) n S v (by omega) (by omega) ⟨?_, fun u => ?_⟩ hF
      · rw [en]
        show v = max (mxw (fv l g R m) (x * m + y)) (fv l g R m (x * m + y))
        rw [fi, ← hv, Int.max_eq_left z]
      · obtain ⟨j, j1, j2⟩ := hB2 u
        exact ⟨j, by omega, j2⟩
    have sb := stX_b (b0 := x + y) (b1 := b0) (b2 := b1) (by omega)
    unfold wp_X5_bestCut_36 wp_X5_bestCut_122
    try dsimp only
    rw [show ((x : Int) + y) = ((x + y : Nat) : Int) by omega, show ((y : Int) + 1) = ((y + 1 : Nat) : Int) by omega]
    refine ⟨⟨by omega, by omega⟩, ⟨by omega, by omega⟩, fun z => absurd z (by omega), fun _ v3 e3 => ⟨by omega, by omega, sx_state (by omega) ?_⟩⟩
    try dsimp only
    rw [f53, show Int.toNat ((p : Int) + 1) = p + 1 by omega, Int.toNat_natCast, r1]
    refine ⟨by omega, by omega, by omega, fun v11 e11 => ?_⟩
    subst e3
    subst e11
    refine wi_x ⟨by omega, by omega⟩ ⟨by omega, by omega⟩ ⟨by omega, by omega⟩ (fun w1 w2 => ⟨in1, fun c => absurd c (by decide), fun _ => ⟨⟨by omega, by omega⟩, fun z => stay ?_, fun z => ⟨⟨by omega, by omega⟩, ⟨by omega, by omega⟩, fun u => stay ?_, fun u v18 e18 s19 e19 s20 e20 => ?_⟩⟩⟩) (fun w => ⟨in0, fun _ => stay ?_, fun c => absurd rfl c⟩)
    · unfold wv
      rw [if_neg (fun c => c.2.2 z)]
      exact vlo.1
    · unfold wv
      rw [if_pos ⟨w1, w2, z⟩]
      exact u
    · have ev : wv l g R x y = v18 := by
        unfold wv
        rw [if_pos ⟨w1, w2, z⟩, e18]
      refine ih (y + 1) n s20 v18 (by omega) (by omega) ⟨?_, fun _ => ⟨x * m + y, by omega, ?_, ?_, by rw [fi, ev], fun i' hi' => ?_⟩⟩ ⟨fun k z => by rw [e20, rs_ne z, e19, rs_ne z]; exact hF.1 k z, fun i z1 z2 => by rw [e20, rs_eq, up_ne z2, e19, rs_eq, up_ne z1]; exact hF.2 i z1 z2⟩
      · rw [en]
        show v18 = max (mxw (fv l g R m) (x * m + y)) (fv l g R m (x * m + y))
        rw [fi, ev, ← hv, Int.max_eq_right (by omega)]
      · rw [e20, rs_eq, up_ne (by decide), e19, rs_eq, up_eq, (ix_d (show y < m by omega)).1]
      · rw [e20, rs_eq, up_eq, (ix_d (show y < m by omega)).2]
      · have := fb i' hi'
        rw [fi, ev]
        omega
    · unfold wv
      rw [if_neg (fun c => w ⟨c.1, c.2.1⟩)]
      exact vlo.1
theorem bc17_loop {σ : St} {p b0 b1 b2 b3 m : Nat} {l g : Int} {R : Nat → Int} {Q : Int → St → Prop} (hp : p < 8) (hm : m = b2 + 1) (hA : b0 + b1 + b2 + b3 ≤ 12) (hl : 0 ≤ l ∧ l ≤ 60) (hg : 0 ≤ g ∧ g ≤ 60) (hR : ∀ t, t ≤ b2 + b3 → σ 53 (p + 1) (stX t b0 b1) = R t ∧ -1 ≤ R t ∧ R t ≤ 1000)
    (q : ∀ S, BI S (fv l g R m) m ((b3 + 1) * m) (mxw (fv l g R m) ((b3 + 1) * m)) → FrB σ S → Q (mxw (fv l g R m) ((b3 + 1) * m)) S) :
    ∀ (k x n : Nat) (S : St) (v : Int), x + k = b3 + 1 → k < n → BI S (fv l g R m) m (x * m) v → FrB σ S → wp_X5_bestCut_17 Q n S p b0 b1 b2 l g b3 v x := by
  intro k
  induction k with
  | zero =>
    intro x n S v hk hn hB hF
    obtain ⟨n, rfl⟩ : ∃ n', n = n' + 1 := ⟨n - 1, by omega⟩
    have e : x = b3 + 1 := by omega
    subst e
    have ev := hB.1
    subst ev
    unfold wp_X5_bestCut_17
    exact ⟨⟨by omega, by omega⟩, ⟨by omega, by omega⟩, fun _ => q S hB hF, fun z => absurd (by omega) z⟩
  | succ k ih =>
    intro x n S v hk hn hB hF
    obtain ⟨n, rfl⟩ : ∃ n', n = n' + 1 := ⟨n - 1, by omega⟩
    unfold wp_X5_bestCut_17
    refine ⟨⟨by omega, by omega⟩, ⟨by omega, by omega⟩, fun z => absurd z (by omega), fun _ => ⟨⟨by omega, by omega⟩, ⟨by omega, by omega⟩, fun z => ?_, fun z => ⟨m + 1, ?_⟩⟩⟩
    · have es : x * m + (k + 1) * m = (b3 + 1) * m := by
        rw [← Nat.add_mul]
        congr 1
      have st := mxw_stop (f := fv l g R m) (n := x * m) ((k + 1) * m) (fun j h1 h2 => by
        unfold fv wv
        have dd : x ≤ j / m := (Nat.le_div_iff_mul_le (by omega)).2 h1
        rw [if_neg (fun c => by omega)])
      rw [es] at st
      have ev := hB.1
      rw [← st] at ev
      rw [ev]
      refine q S ⟨rfl, fun u => ?_⟩ hF
      rw [ev] at hB
      obtain ⟨j, j1, j2⟩ := hB.2 u
      exact ⟨j, by omega, j2⟩
    · refine bc36_loop hp hm (by omega) hA hl hg hR (fun S' v' hB' hF' => ?_) m 0 (m + 1) S v (by omega) (by omega) hB hF
      unfold wp_X5_bestCut_128
      rw [show ((x : Int) + 1) = ((x + 1 : Nat) : Int) by omega]
      refine ih (x + 1) n S' v' (by omega) (by omega) ?_ hF'
      rw [Nat.succ_mul]
      exact hB'
theorem sx_bestCut {σ : St} {p b0 b1 b2 b3 A : Nat} {l g : Int} {R : Nat → Int} {Q : Int → St → Prop} (hp : p < 8) (hA : b0 + b1 + b2 + b3 = A) (hA2 : A ≤ 12) (hl : 0 ≤ l ∧ l ≤ 60) (hg : 0 ≤ g ∧ g ≤ 60) (hR : ∀ t, t ≤ b2 + b3 → σ 53 (p + 1) (stX t b0 b1) = R t ∧ -1 ≤ R t ∧ R t ≤ 1000)
    (q : ∀ S, BI S (fv l g R (b2 + 1)) (b2 + 1) ((b3 + 1) * (b2 + 1)) (mxw (fv l g R (b2 + 1)) ((b3 + 1) * (b2 + 1))) → FrB σ S → Q (mxw (fv l g R (b2 + 1)) ((b3 + 1) * (b2 + 1))) S) : wp_X5_bestCut σ p b0 b1 b2 A l g Q := by
  unfold wp_X5_bestCut
  refine fun v31 a31 => ⟨b3 + 2, ?_⟩
  have a31b : v31 = (b3 : Int) := by omega
  subst a31b
  have l := bc17_loop (Q := Q) hp rfl (by omega) hl hg hR q (b3 + 1) 0 (b3 + 2) σ (-1) (by omega) (by omega)
  rw [Nat.zero_mul] at l
  exact l ⟨rfl, fun z => absurd rfl z⟩ ⟨fun k _ => rfl, fun i _ _ => rfl⟩
