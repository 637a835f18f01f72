/-! cuts for forty years: the class in whole, and the reference -/
theorem sx_planCuts {σ : St} {A s0 s1 s2 s3 : Nat} {l g kept : Int} {Q : Int → St → Prop} (e0 : σ 51 0 0 = s0) (e1 : σ 51 0 1 = s1) (e2 : σ 51 0 2 = s2) (e3 : σ 51 0 3 = s3) (hA : s0 + s1 + s2 + s3 = A) (hA2 : A ≤ 12) (hl : 0 ≤ l ∧ l ≤ 60) (hg : 0 ≤ g ∧ g ≤ 60) (hk : 0 ≤ kept ∧ kept ≤ 12)
    (q2 : Yv A l g kept 8 s0 s1 s2 = -1 → ∀ S, FrP σ S → Q (-2) S)
    (q1 : ¬ Yv A l g kept 8 s0 s1 s2 = -1 → ∀ S js, PthOK A l g kept js s0 s1 s2 8 → (∀ p, p < 8 → S 54 0 (2 * p) = ((js p / ((pst js s0 s1 s2 p).2.2 + 1) : Nat) : Int) ∧ S 54 0 (2 * p + 1) = ((js p % ((pst js s0 s1 s2 p).2.2 + 1) : Nat) : Int)) → (∀ k, ¬ k = 5 → ¬ k = 53 → ¬ k = 54 → S k = σ k) → (∀ i, ¬ i = 13 → ¬ i = 14 → ¬ i = 16 → S 5 0 i = σ 5 0 i) → S 5 0 16 = 1 → Q (Yv A l g kept 8 s0 s1 s2) S) : wp_X5_planCuts σ l g kept Q := by
  have hs : ∀ i, i < 4 → inR (σ 51 0 i) := fun i hi => by
    rcases (show i = 0 ∨ i = 1 ∨ i = 2 ∨ i = 3 by omega) with rfl | rfl | rfl | rfl
    · rw [e0]; exact ⟨by omega, by omega⟩
    · rw [e1]; exact ⟨by omega, by omega⟩
    · rw [e2]; exact ⟨by omega, by omega⟩
    · rw [e3]; exact ⟨by omega, by omega⟩
  unfold wp_X5_planCuts
  rw [show Int.toNat 0 = 0 from rfl, show Int.toNat 1 = 1 from rfl, show Int.toNat 2 = 2 from rfl, show Int.toNat 3 = 3 from rfl, e0, e1, e2, e3]
  intro v ev
  have ev2 : v = (A : Int) := by omega
  subst ev2
  refine ⟨10, ?_⟩
  refine pc33_loop (σ := σ) hA2 hl hg hk hs (fun S hH hF => ?_) 9 0 10 σ (by omega) (by omega) (fun p h1 h2 => absurd h2 (by omega)) ⟨fun _ _ _ => rfl, fun _ _ _ => rfl⟩
  have s51 : S 51 = σ 51 := hF.1 51 (by decide) (by decide)
  have stb : stX s0 s1 s2 < 455 := stX_b (by omega)
  have cb : CB (σ 51 0) 0 s0 s1 s2 := ⟨Or.inr (by rw [e2]), Or.inr (by rw [e1]), Or.inr (by rw [e0])⟩
  have h0 : S 53 0 (stX s0 s1 s2) = Yv A l g kept 8 s0 s1 s2 := hH 0 (by decide) s0 s1 s2 (by omega) cb
  have yb := Yv_b (A := A) (l := l) (kept := kept) hg 8 s0 s1 s2
  unfold wp_X5_planCuts_55
  rw [s51, show Int.toNat 0 = 0 from rfl, show Int.toNat 1 = 1 from rfl, show Int.toNat 2 = 2 from rfl, e0, e1, e2]
  refine sx_state (by omega) ?_
  try dsimp only
  rw [Int.toNat_natCast, h0]
  refine ⟨by decide, by omega, by omega, fun v8 e8 => ?_⟩
  subst e8
  refine ⟨⟨by omega, by omega⟩, fun z => ?_, fun z => q2 z S hF⟩
  unfold wp_X5_keepCuts
  rw [s51, show Int.toNat 0 = 0 from rfl, show Int.toNat 1 = 1 from rfl, show Int.toNat 2 = 2 from rfl, e0, e1, e2]
  intro v15 a15 v16 a16 v17 a17
  subst a15 a16 a17
  refine ⟨9, kc27_loop (σ := S) (s0 := s0) (s1 := s1) (s2 := s2) (kept := kept) hA2 hl hg (by rw [s51]; exact hH) (fun S' js hP h54 f1 f2 => ?_) 8 0 9 S (fun _ => 0) (by omega) (by omega) (fun p hp => absurd hp (by omega)) (show s0 + s1 + s2 ≤ A by omega) (fun _ => by rw [s51]; exact cb) z (fun p hp => absurd hp (by omega)) (fun _ _ _ => rfl) (fun _ _ _ => rfl)⟩
  unfold wp_X5_keepCuts_103
  intro s9 e9
  refine q1 z s9 js hP (fun p hp => by rw [e9, rs_ne (by decide)]; exact h54 p hp) (fun k z1 z2 z3 => ?_) (fun i z1 z2 z3 => ?_) (by rw [e9, rs_eq, up_eq])
  · rw [e9, rs_ne z1, f1 k z1 z3]
    exact hF.1 k z1 z2
  · rw [e9, rs_eq, up_ne z3, f2 i z1 z2]
    exact hF.2 i z1 z2
/-! the reference -/
theorem sm_withCut {σ : St} {p a0 a1 x y A : Nat} {x4 x5 l g : Int} {R : Nat → Int} {Q : Int → St → Prop} (hp : p < 8) (h95 : σ 12 0 95 = l) (h96 : σ 12 0 96 = g) (hl : 0 ≤ l ∧ l ≤ 60) (hg : 0 ≤ g ∧ g ≤ 60) (hA : x + y + a0 + a1 ≤ A) (hA2 : A ≤ 12) (hR : σ 149 0 (2197 * (p + 1) + stI (x + y) a0 a1) = R (x + y) ∧ -1 ≤ R (x + y) ∧ R (x + y) ≤ 1000) (q : Q (wv l g R x y) σ) : wp_X12_withCut σ p a0 a1 x4 x5 x y Q := by
  have stb : stI (x + y) a0 a1 < 2197 := by unfold stI; omega
  unfold wp_X12_withCut wp_X12_stateOf
  dsimp only
  rw [h95, h96, show 169 * ((x : Int) + y) + 13 * (a0 : Int) + a1 = (stI (x + y) a0 a1 : Nat) by unfold stI; omega, show Int.toNat (2197 * ((p : Int) + 1) + ((stI (x + y) a0 a1 : Nat) : Int)) = 2197 * (p + 1) + stI (x + y) a0 a1 by omega]
  intro v1 e1
  subst e1
  refine wi_m ⟨by omega, by omega⟩ ⟨by omega, by omega⟩ ⟨by omega, by omega⟩ (fun w1 w2 => ⟨in1, fun _ => ⟨by omega, by omega, fun v9 e9 => ?_⟩, fun c => absurd c (by decide)⟩) (fun w => ⟨in0, fun c => absurd rfl c, fun _ => ?_⟩)
  · rw [hR.1] at e9
    subst e9
    refine ⟨⟨by omega, by omega⟩, fun z => ?_, fun z => ?_⟩
    · unfold wv at q
      rw [if_pos ⟨w1, w2, z⟩] at q
      exact q
    · unfold wv at q
      rw [if_neg (fun c => c.2.2 z)] at q
      exact q
  · unfold wv at q
    rw [if_neg (fun c => w ⟨c.1, c.2.1⟩)] at q
    exact q
theorem wv_b {l g : Int} {R : Nat → Int} {x y : Nat} (hg : 0 ≤ g ∧ g ≤ 60) (hR : -1 ≤ R (x + y) ∧ R (x + y) ≤ 1000) : -1 ≤ wv l g R x y ∧ wv l g R x y ≤ 2000 := by
  unfold wv
  split <;> omega
theorem bm29_loop {σ : St} {p b0 b1 b2 b3 x m A : Nat} {l g : Int} {R : Nat → Int} {K : St → Int → Int → Int → Int → Int → Int → Int → Prop} {Q : Int → St → Prop} (hp : p < 8) (hm : m = b2 + 1) (hx : x ≤ b3) (hA : b0 + b1 + b2 + b3 = A) (hA2 : A ≤ 12) (h95 : σ 12 0 95 = l) (h96 : σ 12 0 96 = g) (hl : 0 ≤ l ∧ l ≤ 60) (hg : 0 ≤ g ∧ g ≤ 60) (hR : ∀ t, t ≤ b2 + b3 → σ 149 0 (2197 * (p + 1) + stI t b0 b1) = R t ∧ -1 ≤ R t ∧ R t ≤ 1000)
    (q : K σ p b0 b1 b2 b3 (mxw (fv l g R m) (x * m + m)) x) :
    ∀ (k y n : Nat), y + k = m → k < n → -1 ≤ mxw (fv l g R m) (x * m + y) ∧ mxw (fv l g R m) (x * m + y) ≤ 2000 → wp_X12_bestCut_29 K Q n σ p b0 b1 b2 b3 (mxw (fv l g R m) (x * m + y)) x y := by
  intro k
  induction k with
  | zero =>
    intro y n hk hn hv
    obtain ⟨n, rfl⟩ : ∃ n', n = n' + 1 := ⟨n - 1, by omega⟩
    have e : y = m := by omega
    subst e
    unfold wp_X12_bestCut_29
    exact ⟨⟨by omega, by omega⟩, ⟨by omega, by omega⟩, fun _ => q, fun z => absurd (by omega) z⟩
  | succ k ih =>
    intro y n hk hn hv
    obtain ⟨n, rfl⟩ : ∃ n', n = n' + 1 := ⟨n - 1, by omega⟩
    have hr := hR (x + y) (by omega)
    have wb := wv_b (l := l) (x := x) (y := y) hg hr.2
    have fi : fv l g R m (x * m + y) = wv l g R x y := fv_ix (by omega)
    have en : mxw (fv l g R m) (x * m + (y + 1)) = max (mxw (fv l g R m) (x * m + y)) (wv l g R x y) := by
      rw [← fi]
      rfl
    have nx := ih (y + 1) n (by omega) (by omega)
    rw [en] at nx
    unfold wp_X12_bestCut_29
    rw [show ((y : Int) + 1) = ((y + 1 : Nat) : Int) by omega]
    refine ⟨⟨by omega, by omega⟩, ⟨by omega, by omega⟩, fun z => absurd z (by omega), fun _ => ?_⟩
    refine sm_withCut (R := R) (A := A) hp h95 h96 hl hg (by omega) hA2 hr ?_
    refine j_max ⟨by omega, by omega⟩ ⟨by omega, by omega⟩ (nx ⟨Int.le_trans hv.1 (Int.le_max_left _ _), Int.max_le.2 ⟨hv.2, wb.2⟩⟩)
theorem bm19_loop {σ : St} {p b0 b1 b2 b3 m A : Nat} {l g : Int} {R : Nat → Int} {Q : Int → St → Prop} (hp : p < 8) (hm : m = b2 + 1) (hA : b0 + b1 + b2 + b3 = A) (hA2 : A ≤ 12) (h95 : σ 12 0 95 = l) (h96 : σ 12 0 96 = g) (hl : 0 ≤ l ∧ l ≤ 60) (hg : 0 ≤ g ∧ g ≤ 60) (hR : ∀ t, t ≤ b2 + b3 → σ 149 0 (2197 * (p + 1) + stI t b0 b1) = R t ∧ -1 ≤ R t ∧ R t ≤ 1000)
    (q : Q (mxw (fv l g R m) ((b3 + 1) * m)) σ) :
    ∀ (k x n : Nat), x + k = b3 + 1 → k < n → wp_X12_bestCut_19 Q n σ p b0 b1 b2 b3 (mxw (fv l g R m) (x * m)) x := by
  intro k
  induction k with
  | zero =>
    intro x n hk hn
    obtain ⟨n, rfl⟩ : ∃ n', n = n' + 1 := ⟨n - 1, by omega⟩
    have e : x = b3 + 1 := by omega
    subst e
    unfold wp_X12_bestCut_19
    exact ⟨⟨by omega, by omega⟩, ⟨by omega, by omega⟩, fun _ => q, fun z => absurd (by omega) z⟩
  | succ k ih =>
    intro x n hk hn
    obtain ⟨n, rfl⟩ : ∃ n', n = n' + 1 := ⟨n - 1, by omega⟩
    have vb : -1 ≤ mxw (fv l g R m) (x * m + 0) ∧ mxw (fv l g R m) (x * m + 0) ≤ 2000 := by
      refine mxw_b (by decide) _ (fun j hj => ?_)
      have md : j % m < m := Nat.mod_lt _ (by omega)
      have dd : j / m < x := Nat.div_lt_of_lt_mul (by rw [Nat.mul_comm]; exact hj)
      exact (wv_b hg (hR (j / m + j % m) (by omega)).2).2
    unfold wp_X12_bestCut_19
    refine ⟨⟨by omega, by omega⟩, ⟨by omega, by omega⟩, fun z => absurd z (by omega), fun _ => ⟨m + 1, ?_⟩⟩
    have l29 := bm29_loop (σ := σ) (x := x) (K := wp_X12_bestCut_64 (fun σ x1 x2 x3 x4 x5 x6 x7 => wp_X12_bestCut_19 Q n σ x1 x2 x3 x4 x5 x6 x7) Q) (Q := Q) hp hm (by omega) hA hA2 h95 h96 hl hg hR ?_ m 0 (m + 1) (by omega) (by omega) vb
    · exact l29
    · unfold wp_X12_bestCut_64
      rw [show ((x : Int) + 1) = ((x + 1 : Nat) : Int) by omega, ← Nat.succ_mul]
      exact ih (x + 1) n (by omega) (by omega)
theorem sm_bestCut {σ : St} {p b0 b1 b2 A : Nat} {l g kept : Int} {Q : Int → St → Prop} (hp : p < 8) (hv : b0 + b1 + b2 ≤ A) (hA2 : A ≤ 12) (h94 : σ 12 0 94 = A) (h95 : σ 12 0 95 = l) (h96 : σ 12 0 96 = g) (hl : 0 ≤ l ∧ l ≤ 60) (hg : 0 ≤ g ∧ g ≤ 60) (hR : ∀ c0 c1 c2, c0 + c1 + c2 ≤ A → σ 149 0 (2197 * (p + 1) + stI c0 c1 c2) = Yv A l g kept (8 - (p + 1)) c0 c1 c2) (q : Q (Yv A l g kept (8 - p) b0 b1 b2) σ) : wp_X12_bestCut σ p b0 b1 b2 Q := by
  unfold wp_X12_bestCut
  rw [h94]
  intro v ev
  have ev2 : v = ((A - b0 - b1 - b2 : Nat) : Int) := by omega
  subst ev2
  have l19 := bm19_loop (σ := σ) (p := p) (b0 := b0) (b1 := b1) (b2 := b2) (b3 := A - b0 - b1 - b2) (m := b2 + 1) (A := A) (R := fun t => Yv A l g kept (8 - (p + 1)) t b0 b1) (Q := Q) hp rfl (by omega) hA2 h95 h96 hl hg (fun t ht => by
    have yb := Yv_b (A := A) (l := l) (kept := kept) hg (8 - (p + 1)) t b0 b1
    exact ⟨hR t b0 b1 (by omega), by omega, by omega⟩) (by
    rw [show 8 - p = (8 - (p + 1)) + 1 by omega] at q
    exact q) (A - b0 - b1 - b2 + 1) 0 (A - b0 - b1 - b2 + 2) (by omega) (by omega)
  rw [Nat.zero_mul] at l19
  exact ⟨_, l19⟩
/-- its row of yields -/
def DnM (f : Nat → Int) (A : Nat) (l g kept : Int) (p b0 b1 b2 : Nat) : Prop := ∀ c0 c1 c2, c0 + c1 + c2 ≤ A → lexL c0 c1 c2 b0 b1 b2 → f (2197 * p + stI c0 c1 c2) = Yv A l g kept (8 - p) c0 c1 c2
def HM (f : Nat → Int) (A : Nat) (l g kept : Int) (p : Nat) : Prop := ∀ c0 c1 c2, c0 + c1 + c2 ≤ A → f (2197 * p + stI c0 c1 c2) = Yv A l g kept (8 - p) c0 c1 c2
theorem DnM_put {f : Nat → Int} {A p b0 b1 b2 : Nat} {l g kept v : Int} (hA : A ≤ 12) (hv : b0 + b1 + b2 ≤ A) (h : DnM f A l g kept p b0 b1 b2) (ev : v = Yv A l g kept (8 - p) b0 b1 b2) : DnM (up f (2197 * p + stI b0 b1 b2) v) A l g kept p b0 b1 (b2 + 1) := by
  intro c0 c1 c2 h1 h3
  by_cases e : c0 = b0 ∧ c1 = b1 ∧ c2 = b2
  · obtain ⟨e0, e1, e2⟩ := e
    subst e0 e1 e2
    rw [up_eq, ev]
  · have ne : ¬ stI c0 c1 c2 = stI b0 b1 b2 := fun z => e (stI_inj (by omega) (by omega) (by omega) (by omega) z)
    rw [up_ne (by omega)]
    refine h c0 c1 c2 h1 ?_
    unfold lexL at h3 ⊢
    omega
theorem HM_put {f : Nat → Int} {A p p' b0 b1 b2 : Nat} {l g kept v : Int} (hA : A ≤ 12) (hv : b0 + b1 + b2 ≤ A) (hne : ¬ p' = p) (h : HM f A l g kept p') : HM (up f (2197 * p + stI b0 b1 b2) v) A l g kept p' := by
  intro c0 c1 c2 h1
  have s1 : stI c0 c1 c2 < 2197 := by unfold stI; omega
  have s2 : stI b0 b1 b2 < 2197 := by unfold stI; omega
  rw [up_ne (by omega)]
  exact h c0 c1 c2 h1
