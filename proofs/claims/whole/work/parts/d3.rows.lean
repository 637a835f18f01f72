/-! the class reads a text -/
theorem scn_all {P : Nat → Prop} {z : Nat} : ∀ f p i, p ≤ i → i < scn P z f p → P i := by
  intro f
  induction f with
  | zero => intro p i h1 h2; exact absurd h2 (Nat.not_lt.2 h1)
  | succ f ih =>
    intro p i h1 h2
    have e : scn P z (f + 1) p = cif (p < z ∧ P p) (scn P z f (p + 1)) p := rfl
    rw [e] at h2
    by_cases c : p < z ∧ P p
    · rw [cif_p c] at h2
      by_cases e2 : i = p
      · rw [e2]; exact c.2
      · exact ih (p + 1) i (by omega) h2
    · rw [cif_n c] at h2
      omega
theorem nmv_b {b : Nat → Int} {p : Nat} : ∀ k, (∀ i, i < k → 48 ≤ b (p + i) ∧ b (p + i) ≤ 57) → 0 ≤ nmv b p k ∧ nmv b p k ≤ 10 ^ k - 1 := by
  intro k
  induction k with
  | zero => intro _; exact ⟨Int.le_refl _, by show (0 : Int) ≤ 1 - 1; decide⟩
  | succ k ih =>
    intro h
    have a := ih (fun i hi => h i (by omega))
    have c := h k (by omega)
    have e : nmv b p (k + 1) = nmv b p k * 10 + b (p + k) - 48 := rfl
    have e2 : (10 : Int) ^ (k + 1) = 10 ^ k * 10 := Int.pow_succ 10 k
    rw [e, e2]
    omega
theorem tk_num {b : Nat → Int} {z p : Nat} (h : tkK b z p = 2) : 0 ≤ nmv b (tkF b z p) (tkT b z p - tkF b z p) ∧ nmv b (tkF b z p) (tkT b z p - tkF b z p) ≤ 9999 := by
  unfold tkT
  unfold tkK at h
  obtain ⟨q, eq⟩ : ∃ q, q = tkF b z p := ⟨_, rfl⟩
  rw [← eq] at h ⊢
  unfold kdF at h
  unfold toF
  by_cases c0 : z ≤ q
  · rw [cif_p c0] at h
    exact absurd h (by decide)
  · rw [cif_n c0] at h ⊢
    by_cases c1 : isL b q
    · rw [cif_p c1] at h
      exact absurd h (by decide)
    · rw [cif_n c1] at h ⊢
      by_cases c2 : isD b q
      · rw [cif_p c2] at h ⊢
        by_cases c3 : scz (isD b) z q ≤ q + 4
        · have n := nmv_b (b := b) (p := q) (scz (isD b) z q - q) (fun i hi => scn_all (P := isD b) (z := z) (z - q) q (q + i) (by omega) (by show q + i < scz (isD b) z q; omega))
          have m : (10 : Int) ^ (scz (isD b) z q - q) ≤ 10 ^ 4 := by
            rcases (show scz (isD b) z q - q = 0 ∨ scz (isD b) z q - q = 1 ∨ scz (isD b) z q - q = 2 ∨ scz (isD b) z q - q = 3 ∨ scz (isD b) z q - q = 4 by omega) with e | e | e | e | e <;> rw [e] <;> decide
          have m4 : (10 : Int) ^ 4 = 10000 := by decide
          omega
        · rw [cif_n c3] at h
          exact absurd h (by decide)
      · rw [cif_n c2] at h
        by_cases c3 : sgv (b q) = -1
        · rw [cif_p c3] at h
          exact absurd h (by decide)
        · rw [cif_n c3] at h
          exact absurd h (by decide)
theorem CR_vb {σ S : St} {tx i : Nat} {v : Int} {s : PS} (h : CR σ S tx s) (hi : i < 12) : CR σ (st S 68 0 (12 * tx + i) v) tx (mkP s.w s.kd s.fr s.to s.len s.fk s.fp (up s.vb i v) s.ob s.tm s.ng s.wd s.rl s.vl) := by
  obtain ⟨⟨a1, a2, a3, a4, a5, a6⟩, h2, h3, h4, h5, h6, h7, h8, h9⟩ := h
  refine ⟨⟨by rw [rs_ne (by decide)]; exact a1, by rw [rs_ne (by decide)]; exact a2, by rw [rs_ne (by decide)]; exact a3, by rw [rs_ne (by decide)]; exact a4, by rw [rs_ne (by decide)]; exact a5, by rw [rs_ne (by decide)]; exact a6⟩, fun q hq => ?_, fun q hq => ?_, fun q z1 z2 z3 => by rw [rs_ne (by omega)]; exact h4 q z1 z2 z3, fun q z1 z2 => by rw [rs_ne (by decide)]; exact h5 q z1 z2, fun q z1 z2 z3 => by rw [rs_ne (by decide)]; exact h6 q z1 z2 z3, fun q z1 => by rw [rs_ne (by decide)]; exact h7 q z1, fun q hq => ?_, fun q hq => ?_⟩
  · have hc := h2 q hq
    refine ⟨?_, ?_, ?_⟩
    · rw [rs_eq]
      show up (S 68 0) (12 * tx + i) v (12 * tx + q) = up s.vb i v q
      by_cases e : q = i
      · rw [e, up_eq, up_eq]
      · rw [up_ne (by omega), up_ne e]
        exact hc.1
    · rw [rs_ne (by decide)]
      exact hc.2.1
    · rw [rs_ne (by decide)]
      exact hc.2.2
  · have hc := h3 q hq
    refine ⟨?_, ?_, ?_, ?_⟩
    · rw [rs_ne (by decide)]
      exact hc.1
    · rw [rs_ne (by decide)]
      exact hc.2.1
    · rw [rs_ne (by decide)]
      exact hc.2.2.1
    · rw [rs_ne (by decide)]
      exact hc.2.2.2
  · have hc := h8 q hq
    refine ⟨?_, ?_, ?_⟩
    · rw [rs_eq, up_ne (by omega)]
      exact hc.1
    · rw [rs_ne (by decide)]
      exact hc.2.1
    · rw [rs_ne (by decide)]
      exact hc.2.2
  · have hc := h9 q hq
    refine ⟨?_, ?_, ?_, ?_⟩
    · rw [rs_ne (by decide)]
      exact hc.1
    · rw [rs_ne (by decide)]
      exact hc.2.1
    · rw [rs_ne (by decide)]
      exact hc.2.2.1
    · rw [rs_ne (by decide)]
      exact hc.2.2.2
theorem CR_ob {σ S : St} {tx i : Nat} {v : Int} {s : PS} (h : CR σ S tx s) (hi : i < 12) : CR σ (st S 69 0 (12 * tx + i) v) tx (mkP s.w s.kd s.fr s.to s.len s.fk s.fp s.vb (up s.ob i v) s.tm s.ng s.wd s.rl s.vl) := by
  obtain ⟨⟨a1, a2, a3, a4, a5, a6⟩, h2, h3, h4, h5, h6, h7, h8, h9⟩ := h
  refine ⟨⟨by rw [rs_ne (by decide)]; exact a1, by rw [rs_ne (by decide)]; exact a2, by rw [rs_ne (by decide)]; exact a3, by rw [rs_ne (by decide)]; exact a4, by rw [rs_ne (by decide)]; exact a5, by rw [rs_ne (by decide)]; exact a6⟩, fun q hq => ?_, fun q hq => ?_, fun q z1 z2 z3 => by rw [rs_ne (by omega)]; exact h4 q z1 z2 z3, fun q z1 z2 => by rw [rs_ne (by decide)]; exact h5 q z1 z2, fun q z1 z2 z3 => by rw [rs_ne (by decide)]; exact h6 q z1 z2 z3, fun q z1 => by rw [rs_ne (by decide)]; exact h7 q z1, fun q hq => ?_, fun q hq => ?_⟩
  · have hc := h2 q hq
    refine ⟨?_, ?_, ?_⟩
    · rw [rs_ne (by decide)]
      exact hc.1
    · rw [rs_eq]
      show up (S 69 0) (12 * tx + i) v (12 * tx + q) = up s.ob i v q
      by_cases e : q = i
      · rw [e, up_eq, up_eq]
      · rw [up_ne (by omega), up_ne e]
        exact hc.2.1
    · rw [rs_ne (by decide)]
      exact hc.2.2
  · have hc := h3 q hq
    refine ⟨?_, ?_, ?_, ?_⟩
    · rw [rs_ne (by decide)]
      exact hc.1
    · rw [rs_ne (by decide)]
      exact hc.2.1
    · rw [rs_ne (by decide)]
      exact hc.2.2.1
    · rw [rs_ne (by decide)]
      exact hc.2.2.2
  · have hc := h8 q hq
    refine ⟨?_, ?_, ?_⟩
    · rw [rs_ne (by decide)]
      exact hc.1
    · rw [rs_eq, up_ne (by omega)]
      exact hc.2.1
    · rw [rs_ne (by decide)]
      exact hc.2.2
  · have hc := h9 q hq
    refine ⟨?_, ?_, ?_, ?_⟩
    · rw [rs_ne (by decide)]
      exact hc.1
    · rw [rs_ne (by decide)]
      exact hc.2.1
    · rw [rs_ne (by decide)]
      exact hc.2.2.1
    · rw [rs_ne (by decide)]
      exact hc.2.2.2
theorem CR_tm {σ S : St} {tx i : Nat} {v : Int} {s : PS} (h : CR σ S tx s) (hi : i < 12) : CR σ (st S 70 0 (12 * tx + i) v) tx (mkP s.w s.kd s.fr s.to s.len s.fk s.fp s.vb s.ob (up s.tm i v) s.ng s.wd s.rl s.vl) := by
  obtain ⟨⟨a1, a2, a3, a4, a5, a6⟩, h2, h3, h4, h5, h6, h7, h8, h9⟩ := h
  refine ⟨⟨by rw [rs_ne (by decide)]; exact a1, by rw [rs_ne (by decide)]; exact a2, by rw [rs_ne (by decide)]; exact a3, by rw [rs_ne (by decide)]; exact a4, by rw [rs_ne (by decide)]; exact a5, by rw [rs_ne (by decide)]; exact a6⟩, fun q hq => ?_, fun q hq => ?_, fun q z1 z2 z3 => by rw [rs_ne (by omega)]; exact h4 q z1 z2 z3, fun q z1 z2 => by rw [rs_ne (by decide)]; exact h5 q z1 z2, fun q z1 z2 z3 => by rw [rs_ne (by decide)]; exact h6 q z1 z2 z3, fun q z1 => by rw [rs_ne (by decide)]; exact h7 q z1, fun q hq => ?_, fun q hq => ?_⟩
  · have hc := h2 q hq
    refine ⟨?_, ?_, ?_⟩
    · rw [rs_ne (by decide)]
      exact hc.1
    · rw [rs_ne (by decide)]
      exact hc.2.1
    · rw [rs_eq]
      show up (S 70 0) (12 * tx + i) v (12 * tx + q) = up s.tm i v q
      by_cases e : q = i
      · rw [e, up_eq, up_eq]
      · rw [up_ne (by omega), up_ne e]
        exact hc.2.2
  · have hc := h3 q hq
    refine ⟨?_, ?_, ?_, ?_⟩
    · rw [rs_ne (by decide)]
      exact hc.1
    · rw [rs_ne (by decide)]
      exact hc.2.1
    · rw [rs_ne (by decide)]
      exact hc.2.2.1
    · rw [rs_ne (by decide)]
      exact hc.2.2.2
  · have hc := h8 q hq
    refine ⟨?_, ?_, ?_⟩
    · rw [rs_ne (by decide)]
      exact hc.1
    · rw [rs_ne (by decide)]
      exact hc.2.1
    · rw [rs_eq, up_ne (by omega)]
      exact hc.2.2
  · have hc := h9 q hq
    refine ⟨?_, ?_, ?_, ?_⟩
    · rw [rs_ne (by decide)]
      exact hc.1
    · rw [rs_ne (by decide)]
      exact hc.2.1
    · rw [rs_ne (by decide)]
      exact hc.2.2.1
    · rw [rs_ne (by decide)]
      exact hc.2.2.2
theorem CR_ng {σ S : St} {tx i : Nat} {v : Int} {s : PS} (h : CR σ S tx s) (hi : i < 60) : CR σ (st S 71 0 (60 * tx + i) v) tx (mkP s.w s.kd s.fr s.to s.len s.fk s.fp s.vb s.ob s.tm (up s.ng i v) s.wd s.rl s.vl) := by
  obtain ⟨⟨a1, a2, a3, a4, a5, a6⟩, h2, h3, h4, h5, h6, h7, h8, h9⟩ := h
  refine ⟨⟨by rw [rs_ne (by decide)]; exact a1, by rw [rs_ne (by decide)]; exact a2, by rw [rs_ne (by decide)]; exact a3, by rw [rs_ne (by decide)]; exact a4, by rw [rs_ne (by decide)]; exact a5, by rw [rs_ne (by decide)]; exact a6⟩, fun q hq => ?_, fun q hq => ?_, fun q z1 z2 z3 => by rw [rs_ne (by omega)]; exact h4 q z1 z2 z3, fun q z1 z2 => by rw [rs_ne (by decide)]; exact h5 q z1 z2, fun q z1 z2 z3 => by rw [rs_ne (by decide)]; exact h6 q z1 z2 z3, fun q z1 => by rw [rs_ne (by decide)]; exact h7 q z1, fun q hq => ?_, fun q hq => ?_⟩
  · have hc := h2 q hq
    refine ⟨?_, ?_, ?_⟩
    · rw [rs_ne (by decide)]
      exact hc.1
    · rw [rs_ne (by decide)]
      exact hc.2.1
    · rw [rs_ne (by decide)]
      exact hc.2.2
  · have hc := h3 q hq
    refine ⟨?_, ?_, ?_, ?_⟩
    · rw [rs_eq]
      show up (S 71 0) (60 * tx + i) v (60 * tx + q) = up s.ng i v q
      by_cases e : q = i
      · rw [e, up_eq, up_eq]
      · rw [up_ne (by omega), up_ne e]
        exact hc.1
    · rw [rs_ne (by decide)]
      exact hc.2.1
    · rw [rs_ne (by decide)]
      exact hc.2.2.1
    · rw [rs_ne (by decide)]
      exact hc.2.2.2
  · have hc := h8 q hq
    refine ⟨?_, ?_, ?_⟩
    · rw [rs_ne (by decide)]
      exact hc.1
    · rw [rs_ne (by decide)]
      exact hc.2.1
    · rw [rs_ne (by decide)]
      exact hc.2.2
  · have hc := h9 q hq
    refine ⟨?_, ?_, ?_, ?_⟩
    · rw [rs_eq, up_ne (by omega)]
      exact hc.1
    · rw [rs_ne (by decide)]
      exact hc.2.1
    · rw [rs_ne (by decide)]
      exact hc.2.2.1
    · rw [rs_ne (by decide)]
      exact hc.2.2.2
theorem CR_wd {σ S : St} {tx i : Nat} {v : Int} {s : PS} (h : CR σ S tx s) (hi : i < 60) : CR σ (st S 72 0 (60 * tx + i) v) tx (mkP s.w s.kd s.fr s.to s.len s.fk s.fp s.vb s.ob s.tm s.ng (up s.wd i v) s.rl s.vl) := by
  obtain ⟨⟨a1, a2, a3, a4, a5, a6⟩, h2, h3, h4, h5, h6, h7, h8, h9⟩ := h
  refine ⟨⟨by rw [rs_ne (by decide)]; exact a1, by rw [rs_ne (by decide)]; exact a2, by rw [rs_ne (by decide)]; exact a3, by rw [rs_ne (by decide)]; exact a4, by rw [rs_ne (by decide)]; exact a5, by rw [rs_ne (by decide)]; exact a6⟩, fun q hq => ?_, fun q hq => ?_, fun q z1 z2 z3 => by rw [rs_ne (by omega)]; exact h4 q z1 z2 z3, fun q z1 z2 => by rw [rs_ne (by decide)]; exact h5 q z1 z2, fun q z1 z2 z3 => by rw [rs_ne (by decide)]; exact h6 q z1 z2 z3, fun q z1 => by rw [rs_ne (by decide)]; exact h7 q z1, fun q hq => ?_, fun q hq => ?_⟩
  · have hc := h2 q hq
    refine ⟨?_, ?_, ?_⟩
    · rw [rs_ne (by decide)]
      exact hc.1
    · rw [rs_ne (by decide)]
      exact hc.2.1
    · rw [rs_ne (by decide)]
      exact hc.2.2
  · have hc := h3 q hq
    refine ⟨?_, ?_, ?_, ?_⟩
    · rw [rs_ne (by decide)]
      exact hc.1
    · rw [rs_eq]
      show up (S 72 0) (60 * tx + i) v (60 * tx + q) = up s.wd i v q
      by_cases e : q = i
      · rw [e, up_eq, up_eq]
      · rw [up_ne (by omega), up_ne e]
        exact hc.2.1
    · rw [rs_ne (by decide)]
      exact hc.2.2.1
    · rw [rs_ne (by decide)]
      exact hc.2.2.2
  · have hc := h8 q hq
    refine ⟨?_, ?_, ?_⟩
    · rw [rs_ne (by decide)]
      exact hc.1
    · rw [rs_ne (by decide)]
      exact hc.2.1
    · rw [rs_ne (by decide)]
      exact hc.2.2
  · have hc := h9 q hq
    refine ⟨?_, ?_, ?_, ?_⟩
    · rw [rs_ne (by decide)]
      exact hc.1
    · rw [rs_eq, up_ne (by omega)]
      exact hc.2.1
    · rw [rs_ne (by decide)]
      exact hc.2.2.1
    · rw [rs_ne (by decide)]
      exact hc.2.2.2
theorem CR_rl {σ S : St} {tx i : Nat} {v : Int} {s : PS} (h : CR σ S tx s) (hi : i < 60) : CR σ (st S 73 0 (60 * tx + i) v) tx (mkP s.w s.kd s.fr s.to s.len s.fk s.fp s.vb s.ob s.tm s.ng s.wd (up s.rl i v) s.vl) := by
  obtain ⟨⟨a1, a2, a3, a4, a5, a6⟩, h2, h3, h4, h5, h6, h7, h8, h9⟩ := h
  refine ⟨⟨by rw [rs_ne (by decide)]; exact a1, by rw [rs_ne (by decide)]; exact a2, by rw [rs_ne (by decide)]; exact a3, by rw [rs_ne (by decide)]; exact a4, by rw [rs_ne (by decide)]; exact a5, by rw [rs_ne (by decide)]; exact a6⟩, fun q hq => ?_, fun q hq => ?_, fun q z1 z2 z3 => by rw [rs_ne (by omega)]; exact h4 q z1 z2 z3, fun q z1 z2 => by rw [rs_ne (by decide)]; exact h5 q z1 z2, fun q z1 z2 z3 => by rw [rs_ne (by decide)]; exact h6 q z1 z2 z3, fun q z1 => by rw [rs_ne (by decide)]; exact h7 q z1, fun q hq => ?_, fun q hq => ?_⟩
  · have hc := h2 q hq
    refine ⟨?_, ?_, ?_⟩
    · rw [rs_ne (by decide)]
      exact hc.1
    · rw [rs_ne (by decide)]
      exact hc.2.1
    · rw [rs_ne (by decide)]
      exact hc.2.2
  · have hc := h3 q hq
    refine ⟨?_, ?_, ?_, ?_⟩
    · rw [rs_ne (by decide)]
      exact hc.1
    · rw [rs_ne (by decide)]
      exact hc.2.1
    · rw [rs_eq]
      show up (S 73 0) (60 * tx + i) v (60 * tx + q) = up s.rl i v q
      by_cases e : q = i
      · rw [e, up_eq, up_eq]
      · rw [up_ne (by omega), up_ne e]
        exact hc.2.2.1
    · rw [rs_ne (by decide)]
      exact hc.2.2.2
  · have hc := h8 q hq
    refine ⟨?_, ?_, ?_⟩
    · rw [rs_ne (by decide)]
      exact hc.1
    · rw [rs_ne (by decide)]
      exact hc.2.1
    · rw [rs_ne (by decide)]
      exact hc.2.2
  · have hc := h9 q hq
    refine ⟨?_, ?_, ?_, ?_⟩
    · rw [rs_ne (by decide)]
      exact hc.1
    · rw [rs_ne (by decide)]
      exact hc.2.1
    · rw [rs_eq, up_ne (by omega)]
      exact hc.2.2.1
    · rw [rs_ne (by decide)]
      exact hc.2.2.2
theorem CR_vl {σ S : St} {tx i : Nat} {v : Int} {s : PS} (h : CR σ S tx s) (hi : i < 60) : CR σ (st S 74 0 (60 * tx + i) v) tx (mkP s.w s.kd s.fr s.to s.len s.fk s.fp s.vb s.ob s.tm s.ng s.wd s.rl (up s.vl i v)) := by
  obtain ⟨⟨a1, a2, a3, a4, a5, a6⟩, h2, h3, h4, h5, h6, h7, h8, h9⟩ := h
  refine ⟨⟨by rw [rs_ne (by decide)]; exact a1, by rw [rs_ne (by decide)]; exact a2, by rw [rs_ne (by decide)]; exact a3, by rw [rs_ne (by decide)]; exact a4, by rw [rs_ne (by decide)]; exact a5, by rw [rs_ne (by decide)]; exact a6⟩, fun q hq => ?_, fun q hq => ?_, fun q z1 z2 z3 => by rw [rs_ne (by omega)]; exact h4 q z1 z2 z3, fun q z1 z2 => by rw [rs_ne (by decide)]; exact h5 q z1 z2, fun q z1 z2 z3 => by rw [rs_ne (by decide)]; exact h6 q z1 z2 z3, fun q z1 => by rw [rs_ne (by decide)]; exact h7 q z1, fun q hq => ?_, fun q hq => ?_⟩
  · have hc := h2 q hq
    refine ⟨?_, ?_, ?_⟩
    · rw [rs_ne (by decide)]
      exact hc.1
    · rw [rs_ne (by decide)]
      exact hc.2.1
    · rw [rs_ne (by decide)]
      exact hc.2.2
  · have hc := h3 q hq
    refine ⟨?_, ?_, ?_, ?_⟩
    · rw [rs_ne (by decide)]
      exact hc.1
    · rw [rs_ne (by decide)]
      exact hc.2.1
    · rw [rs_ne (by decide)]
      exact hc.2.2.1
    · rw [rs_eq]
      show up (S 74 0) (60 * tx + i) v (60 * tx + q) = up s.vl i v q
      by_cases e : q = i
      · rw [e, up_eq, up_eq]
      · rw [up_ne (by omega), up_ne e]
        exact hc.2.2.2
  · have hc := h8 q hq
    refine ⟨?_, ?_, ?_⟩
    · rw [rs_ne (by decide)]
      exact hc.1
    · rw [rs_ne (by decide)]
      exact hc.2.1
    · rw [rs_ne (by decide)]
      exact hc.2.2
  · have hc := h9 q hq
    refine ⟨?_, ?_, ?_, ?_⟩
    · rw [rs_ne (by decide)]
      exact hc.1
    · rw [rs_ne (by decide)]
      exact hc.2.1
    · rw [rs_ne (by decide)]
      exact hc.2.2.1
    · rw [rs_eq, up_ne (by omega)]
      exact hc.2.2.2
theorem CR_len {σ S : St} {tx m : Nat} {v : Int} {s : PS} (h : CR σ S tx s) (hv : v = (m : Int)) : CR σ (st S 67 0 tx v) tx (mkP s.w s.kd s.fr s.to (m) s.fk s.fp s.vb s.ob s.tm s.ng s.wd s.rl s.vl) := by
  obtain ⟨⟨a1, a2, a3, a4, a5, a6⟩, h2, h3, h4, h5, h6, h7, h8, h9⟩ := h
  refine ⟨⟨by rw [rs_ne (by decide)]; exact a1, by rw [rs_ne (by decide)]; exact a2, by rw [rs_ne (by decide)]; exact a3, by rw [rs_eq, up_eq]; exact hv, by rw [rs_ne (by decide)]; exact a5, by rw [rs_ne (by decide)]; exact a6⟩, fun q hq => ?_, fun q hq => ?_, fun q z1 z2 z3 => by rw [rs_ne (by omega)]; exact h4 q z1 z2 z3, fun q z1 z2 => by rw [rs_ne (by decide)]; exact h5 q z1 z2, fun q z1 z2 z3 => by rw [rs_ne (by decide)]; exact h6 q z1 z2 z3, fun q z1 => by rw [rs_eq, up_ne z1]; exact h7 q z1, fun q hq => ?_, fun q hq => ?_⟩
  · rw [rs_ne (show ¬ 68 = 67 by decide), rs_ne (show ¬ 69 = 67 by decide), rs_ne (show ¬ 70 = 67 by decide)]
    exact h2 q hq
  · rw [rs_ne (show ¬ 71 = 67 by decide), rs_ne (show ¬ 72 = 67 by decide), rs_ne (show ¬ 73 = 67 by decide), rs_ne (show ¬ 74 = 67 by decide)]
    exact h3 q hq
  · rw [rs_ne (show ¬ 68 = 67 by decide), rs_ne (show ¬ 69 = 67 by decide), rs_ne (show ¬ 70 = 67 by decide)]
    exact h8 q hq
  · rw [rs_ne (show ¬ 71 = 67 by decide), rs_ne (show ¬ 72 = 67 by decide), rs_ne (show ¬ 73 = 67 by decide), rs_ne (show ¬ 74 = 67 by decide)]
    exact h9 q hq
theorem CR_bad {σ S : St} {tx : Nat} {k : Int} {s : PS} (h : CR σ S tx s) : CR σ (st (st S 8 0 11 k) 8 0 12 (s.fr : Int)) tx (bad k s) := by
  obtain ⟨⟨a1, a2, a3, a4, a5, a6⟩, h2, h3, h4, h5, h6, h7, h8, h9⟩ := h
  refine ⟨⟨by rw [rs_ne (by decide), rs_ne (by decide)]; exact a1, by rw [rs_ne (by decide), rs_ne (by decide)]; exact a2, by rw [rs_ne (by decide), rs_ne (by decide)]; exact a3, by rw [rs_ne (by decide), rs_ne (by decide)]; exact a4, by rw [rs_eq, up_ne (by decide), rs_eq, up_eq]; rfl, by rw [rs_eq, up_eq]; rfl⟩, fun q hq => ?_, fun q hq => ?_, fun q z1 z2 z3 => by rw [rs_ne z1, rs_ne z1]; exact h4 q z1 z2 z3, fun q z1 z2 => by rw [rs_eq, up_ne z2, rs_eq, up_ne z1]; exact h5 q z1 z2, fun q z1 z2 z3 => by rw [rs_ne (by decide), rs_ne (by decide)]; exact h6 q z1 z2 z3, fun q z1 => by rw [rs_ne (by decide), rs_ne (by decide)]; exact h7 q z1, fun q hq => ?_, fun q hq => ?_⟩
  · rw [rs_ne (show ¬ 68 = 8 by decide), rs_ne (show ¬ 68 = 8 by decide), rs_ne (show ¬ 69 = 8 by decide), rs_ne (show ¬ 69 = 8 by decide), rs_ne (show ¬ 70 = 8 by decide), rs_ne (show ¬ 70 = 8 by decide)]
    exact h2 q hq
  · rw [rs_ne (show ¬ 71 = 8 by decide), rs_ne (show ¬ 71 = 8 by decide), rs_ne (show ¬ 72 = 8 by decide), rs_ne (show ¬ 72 = 8 by decide), rs_ne (show ¬ 73 = 8 by decide), rs_ne (show ¬ 73 = 8 by decide), rs_ne (show ¬ 74 = 8 by decide), rs_ne (show ¬ 74 = 8 by decide)]
    exact h3 q hq
  · rw [rs_ne (show ¬ 68 = 8 by decide), rs_ne (show ¬ 68 = 8 by decide), rs_ne (show ¬ 69 = 8 by decide), rs_ne (show ¬ 69 = 8 by decide), rs_ne (show ¬ 70 = 8 by decide), rs_ne (show ¬ 70 = 8 by decide)]
    exact h8 q hq
  · rw [rs_ne (show ¬ 71 = 8 by decide), rs_ne (show ¬ 71 = 8 by decide), rs_ne (show ¬ 72 = 8 by decide), rs_ne (show ¬ 72 = 8 by decide), rs_ne (show ¬ 73 = 8 by decide), rs_ne (show ¬ 73 = 8 by decide), rs_ne (show ¬ 74 = 8 by decide), rs_ne (show ¬ 74 = 8 by decide)]
    exact h9 q hq
theorem CR_adv {σ S S1 : St} {tx z : Nat} {b : Nat → Int} {s : PS} (h : CR σ S tx s) (hn : NxX S S1 (tkK b z s.to) (tkF b z s.to) (tkT b z s.to)) : CR σ S1 tx (adv b z s) := by
  obtain ⟨⟨a1, a2, a3, a4, a5, a6⟩, h2, h3, h4, h5, h6, h7, h8, h9⟩ := h
  obtain ⟨n1, n2, n3, n4, n5⟩ := hn
  refine ⟨⟨n3, n4, n5, by rw [n1 67 (by decide)]; exact a4, by rw [n1 8 (by decide)]; exact a5, by rw [n1 8 (by decide)]; exact a6⟩, fun q hq => ?_, fun q hq => ?_, fun q z1 z2 z3 => by rw [n1 q z2]; exact h4 q z1 z2 z3, fun q z1 z2 => by rw [n1 8 (by decide)]; exact h5 q z1 z2, fun q z1 z2 z3 => by rw [n2 q z1 z2 z3]; exact h6 q z1 z2 z3, fun q z1 => by rw [n1 67 (by decide)]; exact h7 q z1, fun q hq => ?_, fun q hq => ?_⟩
  · rw [n1 68 (by decide), n1 69 (by decide), n1 70 (by decide)]
    exact h2 q hq
  · rw [n1 71 (by decide), n1 72 (by decide), n1 73 (by decide), n1 74 (by decide)]
    exact h3 q hq
  · rw [n1 68 (by decide), n1 69 (by decide), n1 70 (by decide)]
    exact h8 q hq
  · rw [n1 71 (by decide), n1 72 (by decide), n1 73 (by decide), n1 74 (by decide)]
    exact h9 q hq
