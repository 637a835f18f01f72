/-! the call law: the reference's loops, and the invariant -/
theorem l53_loop {τ : St} {b : Nat → Int} {z : Nat} {f : PS} {x1 : Int} {K : St → Int → Prop} {Q : Int → St → Prop} (qF : ∀ T, FltM τ T f → K T x1) (qE : ∀ T s r, Bd τ T b z s f r → s.kd = 0 → K T x1) :
    ∀ (k r n : Nat) (T : St) (s : PS), r + k = 12 → k + 1 < n → Bd τ T b z s f r → wp_X12_law_53 K Q n T x1 1 := by
  have z0' : ∀ (m : Nat) (T : St), FltM τ T f → wp_X12_law_53 K Q (m + 1) T x1 0 := fun m T hT => by
    unfold wp_X12_law_53
    exact ⟨in0, fun _ => qF T hT, fun c => absurd rfl c⟩
  intro k
  induction k with
  | zero =>
    intro r n T s hk hn h
    obtain ⟨n, rfl⟩ : ∃ n', n = n' + 2 := ⟨n - 2, by omega⟩
    have kb := h.2.2.2.1.2.2.2.2.2.2.2.1
    unfold wp_X12_law_53
    rw [h.2.2.2.1.2.1]
    refine ⟨in1, fun c => absurd c (by decide), fun _ => ⟨⟨by omega, by omega⟩, fun c => qE T s r h c, fun c => sm_stmt h c (fun T' hT' => z0' n T' hT') (fun T' s' h' => absurd h'.2.2.1 (by omega))⟩⟩
  | succ k ih =>
    intro r n T s hk hn h
    obtain ⟨n, rfl⟩ : ∃ n', n = n' + 2 := ⟨n - 2, by omega⟩
    have kb := h.2.2.2.1.2.2.2.2.2.2.2.1
    unfold wp_X12_law_53
    rw [h.2.2.2.1.2.1]
    refine ⟨in1, fun c => absurd c (by decide), fun _ => ⟨⟨by omega, by omega⟩, fun c => qE T s r h c, fun c => sm_stmt h c (fun T' hT' => z0' n T' hT') (fun T' s' h' => ih (r + 1) (n + 1) T' s' (by omega) (by omega) h')⟩⟩
/-- what is copied from the scratch -/
def Cp (T0 T : St) (K base src x all : Nat) : Prop := (∀ k, k < x → T K 0 (base + k) = T0 K 0 (src + k)) ∧ ∀ i, (i < base ∨ base + x ≤ i) → T K 0 i = T0 K 0 i
theorem Cp_step {T0 T : St} {K base src x all : Nat} (h : Cp T0 T K base src x all) (hs : base + all ≤ src) (hx : x < all) : Cp T0 (st T K 0 (base + x) (T K 0 (src + x))) K base src (x + 1) all := by
  obtain ⟨h1, h2⟩ := h
  refine ⟨fun k hk => ?_, fun i hi => ?_⟩
  · rw [rs_eq]
    by_cases c : k = x
    · rw [c, up_eq]
      exact h2 (src + x) (by omega)
    · rw [up_ne (by omega)]
      exact h1 k (by omega)
  · rw [rs_eq, up_ne (by omega)]
    exact h2 i (by omega)
theorem Cp_o {T0 T : St} {K base src x all K' i : Nat} {v : Int} (h : Cp T0 T K base src x all) (hK : ¬ K = K') : Cp T0 (st T K' 0 i v) K base src x all := by
  unfold Cp
  rw [rs_ne hK]
  exact h
theorem l116_loop {T0 : St} {tx : Nat} {K : St → Prop} {Q : Int → St → Prop} (htx : tx < 20) (h33 : T0 12 0 33 = tx) (q : ∀ T, Cp T0 T 111 (12 * tx) 240 12 12 → Cp T0 T 112 (12 * tx) 240 12 12 → Cp T0 T 113 (12 * tx) 240 12 12 → (∀ k, ¬ k = 111 → ¬ k = 112 → ¬ k = 113 → T k = T0 k) → K T) :
    ∀ (k x n : Nat) (T : St), x + k = 12 → k < n → Cp T0 T 111 (12 * tx) 240 x 12 → Cp T0 T 112 (12 * tx) 240 x 12 → Cp T0 T 113 (12 * tx) 240 x 12 → (∀ k, ¬ k = 111 → ¬ k = 112 → ¬ k = 113 → T k = T0 k) → wp_X12_law_116 K Q n T x := by
  intro k
  induction k with
  | zero =>
    intro x n T hk hn c1 c2 c3 hF
    obtain ⟨n, rfl⟩ : ∃ n', n = n' + 1 := ⟨n - 1, by omega⟩
    have e : x = 12 := by omega
    subst e
    unfold wp_X12_law_116
    exact ⟨⟨by decide, by decide⟩, fun _ => q T c1 c2 c3 hF, fun z => absurd (by decide) z⟩
  | succ k ih =>
    intro x n T hk hn c1 c2 c3 hF
    obtain ⟨n, rfl⟩ : ∃ n', n = n' + 1 := ⟨n - 1, by omega⟩
    have t33 : T 12 0 33 = tx := by rw [hF 12 (by decide) (by decide) (by decide), h33]
    unfold wp_X12_law_116
    rw [t33, show Int.toNat (240 + (x : Int)) = 240 + x by omega, show Int.toNat (12 * (tx : Int) + x) = 12 * tx + x by omega, show ((x : Int) + 1) = ((x + 1 : Nat) : Int) by omega]
    refine ⟨⟨by omega, by omega⟩, fun z => absurd z (by omega), fun _ => ⟨by omega, by omega, by omega, by omega, fun s1 e1 => ?_⟩⟩
    have d1 : s1 12 0 33 = tx := by rw [e1, rs_ne (by decide), t33]
    rw [d1, show Int.toNat (12 * (tx : Int) + x) = 12 * tx + x by omega]
    refine ⟨by omega, by omega, by omega, by omega, fun s2 e2 => ?_⟩
    have d2 : s2 12 0 33 = tx := by rw [e2, rs_ne (by decide), d1]
    rw [d2, show Int.toNat (12 * (tx : Int) + x) = 12 * tx + x by omega]
    refine ⟨by omega, by omega, by omega, by omega, fun s3 e3 => ?_⟩
    have g1 : s1 112 = T 112 := by rw [e1, rs_ne (by decide)]
    have g2 : s2 113 = T 113 := by rw [e2, rs_ne (by decide), e1, rs_ne (by decide)]
    rw [g1] at e2
    rw [g2] at e3
    refine ih (x + 1) n s3 (by omega) (by omega) ?_ ?_ ?_ (fun k z1 z2 z3 => by rw [e3, rs_ne z3, e2, rs_ne z2, e1, rs_ne z1]; exact hF k z1 z2 z3)
    · rw [e3, e2, e1]
      exact Cp_o (Cp_o (Cp_step c1 (by omega) (by omega)) (by decide)) (by decide)
    · rw [e3]
      refine Cp_o ?_ (by decide)
      have := Cp_step (Cp_o (K' := 111) (i := 12 * tx + x) (v := T 111 0 (240 + x)) c2 (by decide)) (by omega) (by omega)
      rw [rs_ne (show ¬ 112 = 111 by decide), ← e1, ← e2] at this
      exact this
    · have h3 : Cp T0 s2 113 (12 * tx) 240 x 12 := by
        rw [e2, e1]
        exact Cp_o (Cp_o c3 (by decide)) (by decide)
      have := Cp_step h3 (by omega) (by omega)
      rw [g2, ← e3] at this
      exact this
theorem l202_loop {T0 : St} {tx : Nat} {K : St → Prop} {Q : Int → St → Prop} (htx : tx < 20) (h33 : T0 12 0 33 = tx) (htn : I_tn (T0 114 0)) (q : ∀ T, Cp T0 T 114 (60 * tx) 1200 60 60 → Cp T0 T 115 (60 * tx) 1200 60 60 → Cp T0 T 116 (60 * tx) 1200 60 60 → Cp T0 T 117 (60 * tx) 1200 60 60 → (∀ k, ¬ k = 114 → ¬ k = 115 → ¬ k = 116 → ¬ k = 117 → T k = T0 k) → K T) :
    ∀ (k x n : Nat) (T : St), x + k = 60 → k < n → Cp T0 T 114 (60 * tx) 1200 x 60 → Cp T0 T 115 (60 * tx) 1200 x 60 → Cp T0 T 116 (60 * tx) 1200 x 60 → Cp T0 T 117 (60 * tx) 1200 x 60 → (∀ k, ¬ k = 114 → ¬ k = 115 → ¬ k = 116 → ¬ k = 117 → T k = T0 k) → wp_X12_law_202 K Q n T x := by
  intro k
  induction k with
  | zero =>
    intro x n T hk hn c1 c2 c3 c4 hF
    obtain ⟨n, rfl⟩ : ∃ n', n = n' + 1 := ⟨n - 1, by omega⟩
    have e : x = 60 := by omega
    subst e
    unfold wp_X12_law_202
    exact ⟨⟨by decide, by decide⟩, fun _ => q T c1 c2 c3 c4 hF, fun z => absurd (by decide) z⟩
  | succ k ih =>
    intro x n T hk hn c1 c2 c3 c4 hF
    obtain ⟨n, rfl⟩ : ∃ n', n = n' + 1 := ⟨n - 1, by omega⟩
    have t33 : T 12 0 33 = tx := by rw [hF 12 (by decide) (by decide) (by decide) (by decide), h33]
    have tb : T 114 0 (1200 + x) = 0 ∨ T 114 0 (1200 + x) = 1 := by
      rw [c1.2 (1200 + x) (by omega)]
      have := htn (1200 + x)
      omega
    unfold wp_X12_law_202
    rw [t33, show Int.toNat (1200 + (x : Int)) = 1200 + x by omega, show Int.toNat (60 * (tx : Int) + x) = 60 * tx + x by omega, show ((x : Int) + 1) = ((x + 1 : Nat) : Int) by omega]
    refine ⟨⟨by omega, by omega⟩, fun z => absurd z (by omega), fun _ => ⟨by omega, by omega, by omega, by omega, tb, fun s1 e1 => ?_⟩⟩
    have d1 : s1 12 0 33 = tx := by rw [e1, rs_ne (by decide), t33]
    rw [d1, show Int.toNat (60 * (tx : Int) + x) = 60 * tx + x by omega]
    refine ⟨by omega, by omega, by omega, by omega, fun s2 e2 => ?_⟩
    have d2 : s2 12 0 33 = tx := by rw [e2, rs_ne (by decide), d1]
    rw [d2, show Int.toNat (60 * (tx : Int) + x) = 60 * tx + x by omega]
    refine ⟨by omega, by omega, by omega, by omega, fun s3 e3 => ?_⟩
    have d3 : s3 12 0 33 = tx := by rw [e3, rs_ne (by decide), d2]
    rw [d3, show Int.toNat (60 * (tx : Int) + x) = 60 * tx + x by omega]
    refine ⟨by omega, by omega, by omega, by omega, fun s4 e4 => ?_⟩
    refine ih (x + 1) n s4 (by omega) (by omega) ?_ ?_ ?_ ?_ (fun k z1 z2 z3 z4 => by rw [e4, rs_ne z4, e3, rs_ne z3, e2, rs_ne z2, e1, rs_ne z1]; exact hF k z1 z2 z3 z4)
    · rw [e4, e3, e2]
      refine Cp_o (Cp_o (Cp_o ?_ (by decide)) (by decide)) (by decide)
      rw [e1]
      exact Cp_step c1 (by omega) (by omega)
    · rw [e4, e3]
      refine Cp_o (Cp_o ?_ (by decide)) (by decide)
      rw [e2]
      refine Cp_step ?_ (by omega) (by omega)
      rw [e1]
      exact Cp_o c2 (by decide)
    · rw [e4]
      refine Cp_o ?_ (by decide)
      rw [e3]
      refine Cp_step ?_ (by omega) (by omega)
      rw [e2, e1]
      exact Cp_o (Cp_o c3 (by decide)) (by decide)
    · rw [e4]
      refine Cp_step ?_ (by omega) (by omega)
      rw [e3, e2, e1]
      exact Cp_o (Cp_o (Cp_o c4 (by decide)) (by decide)) (by decide)
theorem Inv_law {n : Nat} {σ U : St} (hI : Inv n σ) (hk : ∀ k, ¬ k = 8 → ¬ k = 9 → ¬ k = 12 → (k < 66 ∨ (74 < k ∧ k < 109) ∨ 117 < k) → U k = σ k) (h12 : ∀ i, (0 < i ∧ i < 33) ∨ (33 < i ∧ i < 44) ∨ 51 < i → U 12 0 i = σ 12 0 i) (hf : U 12 0 46 = U 8 0 12) (hz : U 9 0 1 = 0 ∧ U 12 0 44 = 0)
    (hL : I_law (U 8 0 10) (U 12 0 33) (U 66 0) (U 67 0) (U 68 0) (U 69 0) (U 70 0) (U 71 0) (U 72 0) (U 73 0) (U 74 0) (U 109 0) (U 110 0) (U 111 0) (U 112 0) (U 113 0) (U 114 0) (U 115 0) (U 116 0) (U 117 0)) (hT : I_tn (U 114 0)) : Inv (n + 1) U := by
  obtain ⟨a_sky, a_land, a_price, a_ints, a_logA, a_logB, a_live, a_lying, a_ways, a_crews, a_dbl, a_tape, a_law, a_ord, a_spur, a_cuts, a_cru, a_kf, a_tn⟩ := hI
  obtain ⟨⟨i1, i2, i3⟩, i4, i5, i6⟩ := id a_ints
  obtain ⟨-, t2⟩ := id a_tape
  unfold Inv
  simp (decide := true) only [hk, h12, hz.1, hz.2, not_false_eq_true, or_true, true_or, and_self, or_false, false_or]
  refine ⟨a_sky, a_land, a_price, ⟨⟨i1, i2, hf⟩, i4, by omega, i6⟩, a_logA, a_logB, a_live, a_lying, a_ways, a_crews, a_dbl, ⟨⟨rfl, by decide, by decide⟩, t2⟩, hL, a_ord, a_spur, a_cuts, a_cru, a_kf, hT⟩
