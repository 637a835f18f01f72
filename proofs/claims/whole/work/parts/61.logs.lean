/-! logs, crews and ways: calls that answer out of one of them, or make one -/
theorem nx_and (a b : Nat) : nI a &&& nI b = nI (a &&& b) := by
  apply Int32.toBitVec_inj.1
  show BitVec.ofNat 32 a &&& BitVec.ofNat 32 b = BitVec.ofNat 32 (a &&& b)
  apply BitVec.eq_of_getLsbD_eq
  intro i hi
  simp [hi]
theorem nx_or (a b : Nat) : nI a ||| nI b = nI (a ||| b) := by
  apply Int32.toBitVec_inj.1
  show BitVec.ofNat 32 a ||| BitVec.ofNat 32 b = BitVec.ofNat 32 (a ||| b)
  apply BitVec.eq_of_getLsbD_eq
  intro i hi
  simp [hi]
theorem nx_xor (a b : Nat) : nI a ^^^ nI b = nI (a ^^^ b) := by
  apply Int32.toBitVec_inj.1
  show BitVec.ofNat 32 a ^^^ BitVec.ofNat 32 b = BitVec.ofNat 32 (a ^^^ b)
  apply BitVec.eq_of_getLsbD_eq
  intro i hi
  simp [hi]
theorem iv_nat (a : Nat) : iv (a : Int) = nI a := rfl
theorem xor_n {a b m : Nat} (ha : a < 2 ^ m) (hb : b < 2 ^ m) (hm : m ≤ 31) : i_ixor (a : Int) (b : Int) = ((a ^^^ b : Nat) : Int) ∧ a ^^^ b < 2 ^ m := by
  have h : a ^^^ b < 2 ^ m := Nat.xor_lt_two_pow ha hb
  have h2 : 2 ^ m ≤ 2 ^ 31 := Nat.pow_le_pow_right (by decide) hm
  refine ⟨?_, h⟩
  unfold i_ixor
  rw [iv_nat, iv_nat, nx_xor, nI_toInt (by omega)]
theorem and_n {a b : Nat} (ha : a < 2 ^ 31) : i_iand (a : Int) (b : Int) = ((a &&& b : Nat) : Int) ∧ a &&& b ≤ a := by
  have h : a &&& b ≤ a := Nat.and_le_left
  refine ⟨?_, h⟩
  unfold i_iand
  rw [iv_nat, iv_nat, nx_and, nI_toInt (by omega)]
theorem or_n {a b m : Nat} (ha : a < 2 ^ m) (hb : b < 2 ^ m) (hm : m ≤ 31) : i_ior (a : Int) (b : Int) = ((a ||| b : Nat) : Int) ∧ a ||| b < 2 ^ m := by
  have h : a ||| b < 2 ^ m := Nat.or_lt_two_pow ha hb
  have h2 : 2 ^ m ≤ 2 ^ 31 := Nat.pow_le_pow_right (by decide) hm
  refine ⟨?_, h⟩
  unfold i_ior
  rw [iv_nat, iv_nat, nx_or, nI_toInt (by omega)]
theorem sx_log {σ : St} {x1 x2 : Int} {Q : Int → St → Prop} (h1 : inR x1) (h2 : inR x2) (f1 : 0 ≤ σ 11 0 4) (f2 : σ 11 0 4 ≤ 300) (f3 : 0 ≤ x1 ∧ x1 < σ 11 0 4 → ¬ σ 77 0 x1.toNat = 0 ∧ ¬ σ 50 4 x1.toNat = 0 ∧ 0 ≤ σ 4 x1.toNat 1 * σ 4 x1.toNat 2 ∧ σ 4 x1.toNat 1 * σ 4 x1.toNat 2 ≤ 192) (q1 : 0 ≤ x1 ∧ x1 < σ 11 0 4 → ∀ r : Int, (x2 = 0 → r = σ 4 x1.toNat 5) ∧ (x2 = 1 → r = σ 4 x1.toNat 0) ∧ (x2 = 2 → r = σ 4 x1.toNat 1) ∧ (x2 = 3 → r = σ 4 x1.toNat 2) ∧ (x2 = 4 → r = σ 4 x1.toNat 6) ∧ (x2 = 5 → r = σ 4 x1.toNat 3) ∧ (x2 = 6 → r = σ 4 x1.toNat 8) ∧ (x2 = 7 → r = Int.tdiv (σ 4 x1.toNat 1 * σ 4 x1.toNat 2) 8 + 1) ∧ (x2 = 8 → r = σ 4 x1.toNat 4) ∧ (x2 < 0 ∨ 8 < x2 → r = -1) → Q r σ) (q0 : ¬ (0 ≤ x1 ∧ x1 < σ 11 0 4) → Q (-1) σ) : wp_X11_log σ x1 x2 Q := by
  simp (decide := true) only [rs_ne, rs_fn, upj_eq, upj_ne, up_eq, up_ne, ra_ne, ra_fn, upr_eq, upr_ne, not_false_eq_true, ne_eq, wp_X11_log, wp_X11_logAt, wp_X4_told, wp_X4_volume, forall_eq]
  repeat' first
    | with_reducible assumption
    | with_reducible rfl
    | with_reducible exact True.intro
    | (with_reducible exact Or.inl rfl)
    | (with_reducible exact Or.inr rfl)
    | (apply inR_i <;> decide)
    | with_reducible apply wi_x
    | with_reducible apply wi_m
    | with_reducible apply And.intro
    | (intro σ9 e9; subst e9)
    | intro _
  all_goals first
    | omega
    | (exfalso; omega)
    | (constructor <;> omega)
    | (exact q1 (by omega) _ (by omega))
    | (exact q0 (by omega))
theorem sm_log {σ : St} {x1 x2 : Int} {Q : Int → St → Prop} (h1 : inR x1) (h2 : inR x2) (f1 : 0 ≤ σ 12 0 17) (f2 : σ 12 0 17 ≤ 300) (f3 : 0 ≤ x1 ∧ x1 < σ 12 0 17 → 0 ≤ σ 97 0 x1.toNat * σ 98 0 x1.toNat ∧ σ 97 0 x1.toNat * σ 98 0 x1.toNat ≤ 192) (q1 : 0 ≤ x1 ∧ x1 < σ 12 0 17 → ∀ r : Int, (x2 = 0 → r = σ 95 0 x1.toNat) ∧ (x2 = 1 → r = σ 96 0 x1.toNat) ∧ (x2 = 2 → r = σ 97 0 x1.toNat) ∧ (x2 = 3 → r = σ 98 0 x1.toNat) ∧ (x2 = 4 → r = σ 99 0 x1.toNat) ∧ (x2 = 5 → r = σ 100 0 x1.toNat) ∧ (x2 = 6 → r = σ 102 0 x1.toNat) ∧ (x2 = 7 → r = Int.tdiv (σ 97 0 x1.toNat * σ 98 0 x1.toNat) 8 + 1) ∧ (x2 = 8 → r = σ 101 0 x1.toNat) ∧ (x2 < 0 ∨ 8 < x2 → r = -1) → Q r (st σ 12 0 0 0)) (q0 : ¬ (0 ≤ x1 ∧ x1 < σ 12 0 17) → Q (-1) (st σ 12 0 0 0)) : wp_X12_log σ x1 x2 Q := by
  unfold wp_X12_log
  intro τ eτ
  have g17 : τ 12 0 17 = σ 12 0 17 := by rw [eτ, rs_eq, up_ne (by decide)]
  have b95 : τ 95 = σ 95 := by rw [eτ, rs_ne (by decide)]
  have b96 : τ 96 = σ 96 := by rw [eτ, rs_ne (by decide)]
  have b97 : τ 97 = σ 97 := by rw [eτ, rs_ne (by decide)]
  have b98 : τ 98 = σ 98 := by rw [eτ, rs_ne (by decide)]
  have b99 : τ 99 = σ 99 := by rw [eτ, rs_ne (by decide)]
  have b100 : τ 100 = σ 100 := by rw [eτ, rs_ne (by decide)]
  have b101 : τ 101 = σ 101 := by rw [eτ, rs_ne (by decide)]
  have b102 : τ 102 = σ 102 := by rw [eτ, rs_ne (by decide)]
  rw [← eτ] at q1 q0
  try simp only [← g17] at q1 q0 f1 f2 f3
  try simp only [← b95] at q1 q0 f1 f2 f3
  try simp only [← b96] at q1 q0 f1 f2 f3
  try simp only [← b97] at q1 q0 f1 f2 f3
  try simp only [← b98] at q1 q0 f1 f2 f3
  try simp only [← b99] at q1 q0 f1 f2 f3
  try simp only [← b100] at q1 q0 f1 f2 f3
  try simp only [← b101] at q1 q0 f1 f2 f3
  try simp only [← b102] at q1 q0 f1 f2 f3
  clear eτ b95 b96 b97 b98 b99 b100 b101 b102 g17
  try simp (decide := true) only [rs_ne, rs_fn, upj_eq, upj_ne, up_eq, up_ne, ra_ne, ra_fn, upr_eq, upr_ne, not_false_eq_true, ne_eq, wp_X12_isLog, wp_X12_volume, forall_eq]
  repeat' first
    | with_reducible assumption
    | with_reducible rfl
    | with_reducible exact True.intro
    | (with_reducible exact Or.inl rfl)
    | (with_reducible exact Or.inr rfl)
    | (apply inR_i <;> decide)
    | with_reducible apply wi_x
    | with_reducible apply wi_m
    | with_reducible apply And.intro
    | (intro σ9 e9; subst e9)
    | intro _
  all_goals first
    | omega
    | (exfalso; omega)
    | (constructor <;> omega)
    | (exact q1 (by omega) _ (by omega))
    | (exact q0 (by omega))
theorem cases9 (x : Int) : x = 0 ∨ x = 1 ∨ x = 2 ∨ x = 3 ∨ x = 4 ∨ x = 5 ∨ x = 6 ∨ x = 7 ∨ x = 8 ∨ (x < 0 ∨ 8 < x) := by omega
theorem op_log {n : Nat} {σ : St} {x1 x2 : Int} (hI : Inv n σ) (h1 : inR x1) (h2 : inR x2) : wp_X11_log σ x1 x2 (fun r σ1 => wp_X12_log σ1 x1 x2 (fun r2 σ2 => r2 = r ∧ Inv (n + 1) σ2)) := by
  have hI0 := hI
  obtain ⟨a_sky, a_land, a_price, a_ints, a_logA, a_logB, a_live, a_lying, a_ways, a_crews, a_dbl, a_tape, a_law, a_ord, a_spur, a_cuts, a_cru, a_kf, a_tn⟩ := hI
  obtain ⟨v1, v2, v3, -⟩ := id a_live
  have fA : 0 ≤ x1 ∧ x1 < σ 11 0 4 → _ := fun hx => a_logA x1.toNat (by omega)
  have fB : 0 ≤ x1 ∧ x1 < σ 11 0 4 → _ := fun hx => a_logB x1.toNat (by omega)
  have fp : 0 ≤ x1 ∧ x1 < σ 11 0 4 → (0 ≤ σ 97 0 x1.toNat * σ 98 0 x1.toNat ∧ σ 97 0 x1.toNat * σ 98 0 x1.toNat ≤ 192) ∧ σ 4 x1.toNat 1 * σ 4 x1.toNat 2 = σ 97 0 x1.toNat * σ 98 0 x1.toNat := fun hx => by
    obtain ⟨⟨f0, f1, f2, -⟩, -, -, fb⟩ := fA hx
    refine ⟨mul_b (A := 6) (B := 32) (by omega) (by omega) (by omega) (by omega), ?_⟩
    rw [f1, f2]
  refine sx_log h1 h2 (by omega) (by omega) (fun hx => by have a1 := fp hx; have a2 := v3 x1.toNat (by omega); omega) (fun hc r9 e9 => ?_) (fun hc => ?_)
  · refine sm_log h1 h2 (by omega) (by omega) (fun hx => (fp (by omega)).1) (fun hd r8 e8 => ⟨?_, Inv_t hI0⟩) (fun hd => absurd (by omega) hd)
    obtain ⟨⟨f0, f1, f2, f3, f4, f6, -⟩, -⟩ := fA hc
    obtain ⟨⟨g5, g7, g8⟩, -⟩ := fB hc
    have p2 := (fp hc).2
    rw [p2] at e9
    obtain ⟨p0, p1, p2, p3, p4, p5, p6, p7, p8, p9⟩ := e9
    obtain ⟨m0, m1, m2, m3, m4, m5, m6, m7, m8, m9⟩ := e8
    rcases cases9 x2 with h | h | h | h | h | h | h | h | h | h
    · rw [m0 h, p0 h, g5]
    · rw [m1 h, p1 h, f0]
    · rw [m2 h, p2 h, f1]
    · rw [m3 h, p3 h, f2]
    · rw [m4 h, p4 h, f6]
    · rw [m5 h, p5 h, f3]
    · rw [m6 h, p6 h, g8]
    · rw [m7 h, p7 h]
    · rw [m8 h, p8 h, f4]
    · rw [m9 h, p9 h]
  · refine sm_log h1 h2 (by omega) (by omega) (fun hx => (fp (by omega)).1) (fun hd => absurd (by omega) hc) (fun hd => ⟨rfl, Inv_t hI0⟩)
theorem sx_scale {σ : St} {x1 x2 : Int} {Q : Int → St → Prop} (h1 : inR x1) (h2 : inR x2) (f1 : 0 ≤ σ 11 0 4) (f2 : σ 11 0 4 ≤ 300) (f3 : 0 ≤ x1 ∧ x1 < σ 11 0 4 → ¬ σ 77 0 x1.toNat = 0 ∧ ¬ σ 50 4 x1.toNat = 0 ∧ 1 ≤ σ 4 x1.toNat 2 ∧ σ 4 x1.toNat 2 ≤ 32 ∧ 2 ≤ σ 4 x1.toNat 1 ∧ σ 4 x1.toNat 1 ≤ 6) (q1 : 0 ≤ x1 ∧ x1 < σ 11 0 4 ∧ 0 ≤ x2 ∧ x2 ≤ 1 → ∀ r : Int, r = scv (σ 4 x1.toNat 2) (σ 4 x1.toNat 1) x2 → Q r σ) (q0 : ¬ (0 ≤ x1 ∧ x1 < σ 11 0 4 ∧ 0 ≤ x2 ∧ x2 ≤ 1) → Q (-1) σ) : wp_X11_scale σ x1 x2 Q := by
  simp (decide := true) only [rs_ne, rs_fn, upj_eq, upj_ne, up_eq, up_ne, ra_ne, ra_fn, upr_eq, upr_ne, not_false_eq_true, ne_eq, wp_X11_scale, wp_X11_logAt, forall_eq]
  repeat' first
    | with_reducible assumption
    | with_reducible rfl
    | with_reducible exact True.intro
    | (with_reducible exact Or.inl rfl)
    | (with_reducible exact Or.inr rfl)
    | (apply inR_i <;> decide)
    | with_reducible apply sx_scaleBy
    | with_reducible apply wi_x
    | with_reducible apply wi_m
    | with_reducible apply And.intro
    | (intro σ9 e9; subst e9)
    | intro _
  all_goals first
    | omega
    | (exfalso; omega)
    | (constructor <;> omega)
    | (exact q1 (by omega) _ (by omega))
    | (exact q0 (by omega))
theorem sm_scale {σ : St} {x1 x2 : Int} {Q : Int → St → Prop} (h1 : inR x1) (h2 : inR x2) (f1 : 0 ≤ σ 12 0 17) (f2 : σ 12 0 17 ≤ 300) (f3 : 0 ≤ x1 ∧ x1 < σ 12 0 17 → 1 ≤ σ 98 0 x1.toNat ∧ σ 98 0 x1.toNat ≤ 32 ∧ 2 ≤ σ 97 0 x1.toNat ∧ σ 97 0 x1.toNat ≤ 6) (q1 : 0 ≤ x1 ∧ x1 < σ 12 0 17 ∧ 0 ≤ x2 ∧ x2 ≤ 1 → ∀ r : Int, r = scv (σ 98 0 x1.toNat) (σ 97 0 x1.toNat) x2 → Q r (st σ 12 0 0 0)) (q0 : ¬ (0 ≤ x1 ∧ x1 < σ 12 0 17 ∧ 0 ≤ x2 ∧ x2 ≤ 1) → Q (-1) (st σ 12 0 0 0)) : wp_X12_scale σ x1 x2 Q := by
  unfold wp_X12_scale
  intro τ eτ
  have g17 : τ 12 0 17 = σ 12 0 17 := by rw [eτ, rs_eq, up_ne (by decide)]
  have b97 : τ 97 = σ 97 := by rw [eτ, rs_ne (by decide)]
  have b98 : τ 98 = σ 98 := by rw [eτ, rs_ne (by decide)]
  rw [← eτ] at q1 q0
  try simp only [← g17] at q1 q0 f1 f2 f3
  try simp only [← b97] at q1 q0 f1 f2 f3
  try simp only [← b98] at q1 q0 f1 f2 f3
  clear eτ b97 b98 g17
  try simp (decide := true) only [rs_ne, rs_fn, upj_eq, upj_ne, up_eq, up_ne, ra_ne, ra_fn, upr_eq, upr_ne, not_false_eq_true, ne_eq, wp_X12_isLog, forall_eq]
  repeat' first
    | with_reducible assumption
    | with_reducible rfl
    | with_reducible exact True.intro
    | (with_reducible exact Or.inl rfl)
    | (with_reducible exact Or.inr rfl)
    | (apply inR_i <;> decide)
    | with_reducible apply sm_scaleOf
    | with_reducible apply wi_x
    | with_reducible apply wi_m
    | with_reducible apply And.intro
    | (intro σ9 e9; subst e9)
    | intro _
  all_goals first
    | omega
    | (exfalso; omega)
    | (constructor <;> omega)
    | (exact q1 (by omega) _ (by omega))
    | (exact q0 (by omega))
theorem op_scale {n : Nat} {σ : St} {x1 x2 : Int} (hI : Inv n σ) (h1 : inR x1) (h2 : inR x2) : wp_X11_scale σ x1 x2 (fun r σ1 => wp_X12_scale σ1 x1 x2 (fun r2 σ2 => r2 = r ∧ Inv (n + 1) σ2)) := by
  have hI0 := hI
  obtain ⟨a_sky, a_land, a_price, a_ints, a_logA, a_logB, a_live, a_lying, a_ways, a_crews, a_dbl, a_tape, a_law, a_ord, a_spur, a_cuts, a_cru, a_kf, a_tn⟩ := hI
  obtain ⟨v1, v2, v3, -⟩ := id a_live
  have fA : 0 ≤ x1 ∧ x1 < σ 11 0 4 → _ := fun hx => a_logA x1.toNat (by omega)
  refine sx_scale h1 h2 (by omega) (by omega) (fun hx => by obtain ⟨a1, -, -, a3⟩ := fA hx; have a2 := v3 x1.toNat (by omega); omega) (fun hc r9 e9 => ?_) (fun hc => ?_)
  · refine sm_scale h1 h2 (by omega) (by omega) (fun hx => by obtain ⟨a1, -, -, a3⟩ := fA (by omega); omega) (fun hd r8 e8 => ⟨?_, Inv_t hI0⟩) (fun hd => absurd (by omega) hd)
    obtain ⟨⟨f0, f1, f2, -⟩, -⟩ := fA (by omega)
    rw [e8, e9, f1, f2]
  · refine sm_scale h1 h2 (by omega) (by omega) (fun hx => by obtain ⟨a1, -, -, a3⟩ := fA (by omega); omega) (fun hd => absurd (by omega) hc) (fun hd => ⟨rfl, Inv_t hI0⟩)
theorem sx_found {σ : St} {x1 x2 x3 : Int} {Q : Int → St → Prop} (h1 : inR x1) (h2 : inR x2) (h3 : inR x3) (f1 : 0 ≤ σ 11 0 4) (f2 : σ 11 0 4 ≤ 300) (f3 : 0 ≤ σ 11 0 16 ∧ σ 11 0 16 ≤ 60) (f4 : 0 ≤ x2 ∧ x2 < σ 11 0 4 → ¬ σ 77 0 x2.toNat = 0 ∧ ¬ σ 50 4 x2.toNat = 0) (q1 : 0 ≤ x1 ∧ x1 ≤ 4 ∧ 0 ≤ x2 ∧ x2 < σ 11 0 4 ∧ 0 ≤ x3 ∧ x3 ≤ 999 ∧ σ 11 0 16 < 60 → ∀ r : Int, r = 1 → Q r (st (st (st (st σ 80 0 (Int.toNat (σ 11 0 16)) x1) 81 0 (Int.toNat (σ 11 0 16)) x2) 82 0 (Int.toNat (σ 11 0 16)) x3) 11 0 16 (σ 11 0 16 + 1))) (q0 : ¬ (0 ≤ x1 ∧ x1 ≤ 4 ∧ 0 ≤ x2 ∧ x2 < σ 11 0 4 ∧ 0 ≤ x3 ∧ x3 ≤ 999 ∧ σ 11 0 16 < 60) → Q 0 σ) : wp_X11_found σ x1 x2 x3 Q := by
  simp (decide := true) only [rs_ne, rs_fn, upj_eq, upj_ne, up_eq, up_ne, ra_ne, ra_fn, upr_eq, upr_ne, not_false_eq_true, ne_eq, wp_X11_found, wp_X11_logAt, forall_eq]
  repeat' first
    | with_reducible assumption
    | with_reducible rfl
    | with_reducible exact True.intro
    | (with_reducible exact Or.inl rfl)
    | (with_reducible exact Or.inr rfl)
    | (apply inR_i <;> decide)
    | with_reducible apply wi_x
    | with_reducible apply wi_m
    | with_reducible apply And.intro
    | (intro σ9 e9; subst e9)
    | intro _
  all_goals first
    | omega
    | (exfalso; omega)
    | (constructor <;> omega)
    | (exact q1 (by omega) _ (by omega))
    | (exact q0 (by omega))
theorem sm_found {σ : St} {x1 x2 x3 : Int} {Q : Int → St → Prop} (h1 : inR x1) (h2 : inR x2) (h3 : inR x3) (f1 : 0 ≤ σ 12 0 17) (f2 : σ 12 0 17 ≤ 300) (f3 : 0 ≤ σ 12 0 67 ∧ σ 12 0 67 ≤ 60) (q1 : 0 ≤ x1 ∧ x1 ≤ 4 ∧ 0 ≤ x2 ∧ x2 < σ 12 0 17 ∧ 0 ≤ x3 ∧ x3 ≤ 999 ∧ σ 12 0 67 < 60 → ∀ r : Int, r = 1 → Q r (st (st (st (st (st σ 12 0 0 0) 130 0 (Int.toNat (σ 12 0 67)) x1) 131 0 (Int.toNat (σ 12 0 67)) x2) 132 0 (Int.toNat (σ 12 0 67)) x3) 12 0 67 (σ 12 0 67 + 1))) (q0 : ¬ (0 ≤ x1 ∧ x1 ≤ 4 ∧ 0 ≤ x2 ∧ x2 < σ 12 0 17 ∧ 0 ≤ x3 ∧ x3 ≤ 999 ∧ σ 12 0 67 < 60) → Q 0 (st σ 12 0 0 0)) : wp_X12_found σ x1 x2 x3 Q := by
  unfold wp_X12_found
  intro τ eτ
  have g17 : τ 12 0 17 = σ 12 0 17 := by rw [eτ, rs_eq, up_ne (by decide)]
  have g67 : τ 12 0 67 = σ 12 0 67 := by rw [eτ, rs_eq, up_ne (by decide)]
  rw [← eτ] at q1 q0
  try simp only [← g17] at q1 q0 f1 f2 f3
  try simp only [← g67] at q1 q0 f1 f2 f3
  clear eτ g17 g67
  try simp (decide := true) only [rs_ne, rs_fn, upj_eq, upj_ne, up_eq, up_ne, ra_ne, ra_fn, upr_eq, upr_ne, not_false_eq_true, ne_eq, wp_X12_isLog, forall_eq]
  repeat' first
    | with_reducible assumption
    | with_reducible rfl
    | with_reducible exact True.intro
    | (with_reducible exact Or.inl rfl)
    | (with_reducible exact Or.inr rfl)
    | (apply inR_i <;> decide)
    | with_reducible apply wi_x
    | with_reducible apply wi_m
    | with_reducible apply And.intro
    | (intro σ9 e9; subst e9)
    | intro _
  all_goals first
    | omega
    | (exfalso; omega)
    | (constructor <;> omega)
    | (exact q1 (by omega) _ (by omega))
    | (exact q0 (by omega))
theorem I_dbl_add {dc dc2 lc x1 x2 x3 : Int} {a b c a2 b2 c2 : Nat → Int} (h : I_dbl dc dc2 lc a b c a2 b2 c2) (h9 : dc < 60) (g1 : 0 ≤ x1 ∧ x1 ≤ 4) (g2 : 0 ≤ x2 ∧ x2 < lc) (g3 : 0 ≤ x3 ∧ x3 ≤ 999) : I_dbl (dc + 1) (dc2 + 1) lc (up a dc.toNat x1) (up b dc.toNat x2) (up c dc.toNat x3) (up a2 dc2.toNat x1) (up b2 dc2.toNat x2) (up c2 dc2.toNat x3) := by
  obtain ⟨⟨s1, s2, s3⟩, ⟨rfl, rfl, rfl⟩, s5, s6, s7⟩ := h
  subst s1
  refine ⟨⟨rfl, by omega, by omega⟩, ⟨rfl, rfl, rfl⟩, up_all (P := fun x => 0 ≤ x ∧ x ≤ 4) s5 g1, fun i hi => ?_, up_all (P := fun x => 0 ≤ x ∧ x ≤ 999) s7 g3⟩
  by_cases q : i = dc2.toNat
  · rw [q, up_eq]
    exact g2
  · rw [up_ne q]
    exact s6 i (by omega)
theorem op_found {n : Nat} {σ : St} {x1 x2 x3 : Int} (hI : Inv n σ) (h1 : inR x1) (h2 : inR x2) (h3 : inR x3) : wp_X11_found σ x1 x2 x3 (fun r σ1 => wp_X12_found σ1 x1 x2 x3 (fun r2 σ2 => r2 = r ∧ Inv (n + 1) σ2)) := by
  have hI0 := hI
  obtain ⟨a_sky, a_land, a_price, a_ints, a_logA, a_logB, a_live, a_lying, a_ways, a_crews, a_dbl, a_tape, a_law, a_ord, a_spur, a_cuts, a_cru, a_kf, a_tn⟩ := hI
  obtain ⟨v1, v2, v3, -⟩ := id a_live
  obtain ⟨⟨d1, d2, d3⟩, -⟩ := id a_dbl
  refine sx_found h1 h2 h3 (by omega) (by omega) (by omega) (fun hx => v3 x2.toNat (by omega)) (fun hc r9 e9 => ?_) (fun hc => ?_)
  · obtain ⟨τ, eτ⟩ : ∃ τ : St, τ = (st (st (st (st σ 80 0 (Int.toNat (σ 11 0 16)) x1) 81 0 (Int.toNat (σ 11 0 16)) x2) 82 0 (Int.toNat (σ 11 0 16)) x3) 11 0 16 (σ 11 0 16 + 1)) := ⟨_, rfl⟩
    rw [← eτ]
    have q0 : τ 12 = σ 12 := by rw [eτ, rs_ne (by decide), rs_ne (by decide), rs_ne (by decide), rs_ne (by decide)]
    have q1 : τ 12 0 17 = σ 12 0 17 := by rw [q0]
    have q2 : τ 12 0 67 = σ 12 0 67 := by rw [q0]
    refine sm_found h1 h2 h3 (by omega) (by omega) (by omega) (fun hd r8 e8 => ⟨by omega, ?_⟩) (fun hd => absurd (by omega) hd)
    rw [eτ]
    unfold Inv
    simp (decide := true) only [rs_ne, rs_fn, upj_eq, upj_ne, up_eq, up_ne, ra_ne, ra_fn, upr_eq, upr_ne, not_false_eq_true, ne_eq]
    refine ⟨?_, ?_, ?_, ?_, ?_, ?_, ?_, ?_, ?_, ?_, ?_, ?_, ?_, ?_, ?_, ?_, ?_, ?_, ?_⟩
    · exact a_sky
    · exact a_land
    · exact a_price
    · exact I_ints_up a_ints
    · exact a_logA
    · exact a_logB
    · exact a_live
    · exact a_lying
    · exact a_ways
    · exact a_crews
    · exact I_dbl_add a_dbl (by omega) (by omega) (by omega) (by omega)
    · exact a_tape
    · exact a_law
    · exact a_ord
    · exact a_spur
    · exact a_cuts
    · exact a_cru
    · exact a_kf
    · exact a_tn
  · refine sm_found h1 h2 h3 (by omega) (by omega) (by omega) (fun hd => absurd (by omega) hc) (fun hd => ⟨rfl, Inv_t hI0⟩)
theorem op_cutIn {n : Nat} {σ : St} {x1 x2 : Int} (hI : Inv n σ) (h1 : inR x1) (h2 : inR x2) : wp_X11_cutIn σ x1 x2 (fun r σ1 => wp_X12_cutIn σ1 x1 x2 (fun r2 σ2 => r2 = r ∧ Inv (n + 1) σ2)) := by
  have hI0 := hI
  obtain ⟨a_sky, a_land, a_price, a_ints, a_logA, a_logB, a_live, a_lying, a_ways, a_crews, a_dbl, a_tape, a_law, a_ord, a_spur, a_cuts, a_cru, a_kf, a_tn⟩ := hI
  obtain ⟨⟨c1, c2, c3⟩, c4⟩ := id a_cuts
  have hno : ¬ (σ 5 0 16 ≠ 0 ∧ 0 ≤ x1 ∧ x1 ≤ 7 ∧ 0 ≤ x2 ∧ x2 ≤ 1) → wp_X12_cutIn σ x1 x2 (fun r2 σ2 => r2 = -1 ∧ Inv (n + 1) σ2) := by
    intro hc τ eτ
    have t1 : τ 12 0 93 = σ 12 0 93 := by rw [eτ, rs_eq, up_ne (by decide)]
    have hi : Inv (n + 1) τ := by rw [eτ]; exact Inv_t hI0
    refine ⟨⟨by omega, by omega⟩, fun _ => ⟨rfl, hi⟩, fun d => wi_m h1 in0 ⟨by decide, by decide⟩ (fun a b => ⟨in1, fun c => absurd c (by decide), fun _ => wi_m h2 in0 ⟨by decide, by decide⟩ (fun a2 b2 => absurd ⟨by omega, a, b, a2, b2⟩ hc) (fun a2 => ⟨in0, fun c => absurd rfl c, fun _ => ⟨rfl, hi⟩⟩)⟩) (fun a => ⟨in0, fun _ => ⟨rfl, hi⟩, fun c => absurd rfl c⟩)⟩
  unfold wp_X11_cutIn
  refine ⟨⟨by omega, by omega⟩, fun d => hno (by omega), fun d => wi_x h1 in0 ⟨by decide, by decide⟩ (fun a b => ⟨in1, fun c => absurd c (by decide), fun _ => wi_x h2 in0 ⟨by decide, by decide⟩ (fun a2 b2 => ⟨in1, fun _ => ⟨by omega, by omega, ?_⟩, fun c => absurd c (by decide)⟩) (fun a2 => ⟨in0, fun c => absurd rfl c, fun _ => hno (by omega)⟩)⟩) (fun a => ⟨in0, fun _ => hno (by omega), fun c => absurd rfl c⟩)⟩
  intro τ eτ
  have t1 : τ 12 0 93 = σ 12 0 93 := by rw [eτ, rs_eq, up_ne (by decide)]
  have t2 : τ 150 = σ 150 := by rw [eτ, rs_ne (by decide)]
  have t3 : τ 151 = σ 151 := by rw [eτ, rs_ne (by decide)]
  have hi : Inv (n + 1) τ := by rw [eτ]; exact Inv_t hI0
  obtain ⟨u1, u2⟩ := c4 x1.toNat (by omega)
  refine ⟨⟨by omega, by omega⟩, fun z => absurd z (by omega), fun _ => wi_m h1 in0 ⟨by decide, by decide⟩ (fun _ _ => ⟨in1, fun c => absurd c (by decide), fun _ => wi_m h2 in0 ⟨by decide, by decide⟩ (fun _ _ => ⟨in1, fun _ => ⟨h2, fun z => ⟨by omega, by omega, ?_, hi⟩, fun z => ⟨by omega, by omega, ?_, hi⟩⟩, fun c => absurd c (by decide)⟩) (fun c => absurd ⟨a2, b2⟩ c)⟩) (fun c => absurd ⟨a, b⟩ c)⟩
  · rw [t3, show Int.toNat (2 * x1 + x2) = 2 * x1.toNat + 1 by omega, u2]
  · rw [t2, show Int.toNat (2 * x1 + x2) = 2 * x1.toNat by omega, u1]
