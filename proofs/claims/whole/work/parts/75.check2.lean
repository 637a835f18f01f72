/-! numbers that are checked: the reference, and the call -/
theorem st_back {σ : St} {k j i : Nat} {v : Int} : st (st σ k j i v) k j i (σ k j i) = σ := by
  rw [st_sta (σ := σ), st_stae, up_up, up_self, sta_self]
def vfix (s1 : Int) (f : Nat → Int) (k : Nat) : Int := (f k + s1 - S0 f % 65537 + 65537) % 65537
def okM (s1 s2 : Int) (f : Nat → Int) (k : Nat) : Prop := vfix s1 f k < 65536 ∧ S1 (up f k (vfix s1 f k)) % 65537 = s2
theorem chk_loop {σ : St} {l : Nat} {f : Nat → Int} {Q : Int → St → Prop} (hl : l < 300) (ef : ∀ k, σ 106 0 (5 * l + k) = f k) (h : ∀ k, k < 5 → 0 ≤ f k ∧ f k ≤ 65535) (h1 : 0 ≤ σ 107 0 l ∧ σ 107 0 l < 65537) (h2 : 0 ≤ σ 108 0 l ∧ σ 108 0 l < 65537) (q0 : (∀ k : Nat, k < 5 → ¬ okM (σ 107 0 l) (σ 108 0 l) f k) → Q (-2) σ) (q1 : ∀ k : Nat, k < 5 → okM (σ 107 0 l) (σ 108 0 l) f k → (∀ k' : Nat, k' < k → ¬ okM (σ 107 0 l) (σ 108 0 l) f k') → Q k (st σ 12 0 32 (vfix (σ 107 0 l) f k))) :
    ∀ (k i n : Nat), i + k = 5 → k < n → (∀ k' : Nat, k' < i → ¬ okM (σ 107 0 l) (σ 108 0 l) f k') → wp_X12_checks_34 (wp_X12_checks_136 Q) Q n σ l i := by
  have ef2 : (fun k => σ 106 0 (5 * l + k)) = f := funext ef
  intro k
  induction k with
  | zero =>
    intro i n hi hn hf
    obtain ⟨n, rfl⟩ : ∃ n', n = n' + 1 := ⟨n - 1, by omega⟩
    unfold wp_X12_checks_34
    exact ⟨⟨by omega, by omega⟩, fun _ => q0 (fun k hk => hf k (by omega)), fun z => absurd (by omega) z⟩
  | succ k ih =>
    intro i n hi hn hf
    obtain ⟨n, rfl⟩ : ∃ n', n = n' + 1 := ⟨n - 1, by omega⟩
    have fb := h i (by omega)
    have vb : 0 ≤ vfix (σ 107 0 l) f i ∧ vfix (σ 107 0 l) f i < 65537 := by unfold vfix; omega
    unfold wp_X12_checks_34
    rw [show Int.toNat (5 * (l : Int) + (i : Int)) = 5 * l + i by omega, Int.toNat_natCast]
    refine ⟨⟨by omega, by omega⟩, fun z => absurd z (by omega), fun _ => ⟨by omega, by omega, fun w ew => ⟨by omega, by omega, ?_⟩⟩⟩
    refine sm_sums hl (Or.inl rfl) (fun k hk => by rw [ef]; have := h k hk; omega) ?_
    rw [if_pos rfl, ef2]
    rw [ef] at ew
    refine ⟨⟨by omega, by omega⟩, fun v ev => ⟨by omega, by omega, fun s1 e1 => ?_⟩⟩
    rw [ew, tmn (by omega)] at ev
    have ev2 : v = vfix (σ 107 0 l) f i := ev
    have bk : ∀ s2 : St, s2 = st s1 106 0 (5 * l + i) w → s2 = σ := by
      intro s2 e2
      rw [e2, e1, ew, ← ef i, st_back]
    have nx : ¬ okM (σ 107 0 l) (σ 108 0 l) f i → wp_X12_checks_114 (fun σ x1 x2 => wp_X12_checks_34 (wp_X12_checks_136 Q) Q n σ x1 x2) (wp_X12_checks_136 Q) Q s1 l i w v := by
      intro hno
      unfold wp_X12_checks_114 wp_X12_checks_115
      rw [show Int.toNat (5 * (l : Int) + (i : Int)) = 5 * l + i by omega]
      refine ⟨by omega, by omega, fun s2 e2 => ⟨in0, fun z => absurd rfl z, fun _ => ?_⟩⟩
      rw [bk s2 e2, show ((i : Int) + 1) = ((i + 1 : Nat) : Int) by omega]
      refine ih (i + 1) n (by omega) (by omega) (fun k' hk => ?_)
      by_cases e : k' = i
      · rw [e]
        exact hno
      · exact hf k' (by omega)
    refine ⟨⟨by omega, by omega⟩, fun c => nx (fun z => absurd z.1 (by omega)), fun c => ?_⟩
    have ef3 : (fun k => s1 106 0 (5 * l + k)) = up f i v := by
      funext k'
      rw [e1, rs_eq]
      unfold up
      by_cases d : k' = i
      · rw [if_pos (by omega), if_pos d]
      · rw [if_neg (by omega), if_neg d, ef]
    have ef4 : ∀ k', s1 106 0 (5 * l + k') = up f i v k' := fun k' => congrFun ef3 k'
    refine sm_sums hl (Or.inr rfl) (fun k' hk => ?_) ?_
    · rw [ef4]
      unfold up
      split
      · omega
      · have := h k' hk
        omega
    · rw [if_neg (by decide), ef3]
      have r108 : s1 108 = σ 108 := by rw [e1, rs_ne (by decide)]
      rw [r108]
      refine ⟨by omega, by omega, ⟨by omega, by omega⟩, ⟨by omega, by omega⟩, fun d => nx (fun z => d (by rw [ev2]; exact z.2)), fun d => ?_⟩
      unfold wp_X12_checks_115 wp_X12_checks_136
      rw [show Int.toNat (5 * (l : Int) + (i : Int)) = 5 * l + i by omega]
      refine ⟨by omega, by omega, fun s2 e2 => ⟨in1, fun _ s3 e3 => ?_, fun z => absurd z (by decide)⟩⟩
      rw [bk s2 e2, ev2] at e3
      rw [e3]
      exact q1 i (by omega) ⟨by omega, by rw [← ev2]; exact d⟩ hf
theorem sm_checks {σ : St} {l : Nat} {f : Nat → Int} {Q : Int → St → Prop} (hl : l < 300) (ef : ∀ k, σ 106 0 (5 * l + k) = f k) (h : ∀ k, k < 5 → 0 ≤ f k ∧ f k ≤ 65535) (h1 : 0 ≤ σ 107 0 l ∧ σ 107 0 l < 65537) (h2 : 0 ≤ σ 108 0 l ∧ σ 108 0 l < 65537)
    (qe : S0 f % 65537 = σ 107 0 l → S1 f % 65537 = σ 108 0 l → Q (-1) σ)
    (q0 : ¬ (S0 f % 65537 = σ 107 0 l ∧ S1 f % 65537 = σ 108 0 l) → (∀ k : Nat, k < 5 → ¬ okM (σ 107 0 l) (σ 108 0 l) f k) → Q (-2) σ) (q1 : ¬ (S0 f % 65537 = σ 107 0 l ∧ S1 f % 65537 = σ 108 0 l) → ∀ k : Nat, k < 5 → okM (σ 107 0 l) (σ 108 0 l) f k → (∀ k' : Nat, k' < k → ¬ okM (σ 107 0 l) (σ 108 0 l) f k') → Q k (st σ 12 0 32 (vfix (σ 107 0 l) f k))) : wp_X12_checks σ l Q := by
  have ef2 : (fun k => σ 106 0 (5 * l + k)) = f := funext ef
  have hh : ∀ k, k < 5 → 0 ≤ σ 106 0 (5 * l + k) ∧ σ 106 0 (5 * l + k) ≤ 65536 := fun k hk => by rw [ef]; have := h k hk; omega
  have go : ¬ (S0 f % 65537 = σ 107 0 l ∧ S1 f % 65537 = σ 108 0 l) → wp_X12_checks_32 Q σ l := fun z => ⟨6, chk_loop hl ef h h1 h2 (q0 z) (q1 z) 5 0 6 (by omega) (by omega) (fun k' hk => absurd hk (by omega))⟩
  unfold wp_X12_checks
  refine sm_sums hl (Or.inl rfl) hh ?_
  rw [if_pos rfl, ef2, Int.toNat_natCast]
  refine ⟨by omega, by omega, ⟨by omega, by omega⟩, ⟨by omega, by omega⟩, fun c => go (fun z => c z.1), fun c => sm_sums hl (Or.inr rfl) hh ?_⟩
  rw [if_neg (by decide), ef2]
  exact ⟨by omega, by omega, ⟨by omega, by omega⟩, ⟨by omega, by omega⟩, fun d => go (fun z => d z.2), fun d => qe c d⟩
theorem S1_up {f : Nat → Int} {k : Nat} {v : Int} (hk : k < 5) : S1 (up f k v) = S1 f + ((k : Int) + 1) * (v - f k) := by
  unfold S1 up
  rcases (show k = 0 ∨ k = 1 ∨ k = 2 ∨ k = 3 ∨ k = 4 by omega) with rfl | rfl | rfl | rfl | rfl <;> simp (decide := true) only [ite_true, ite_false] <;> omega
theorem vfix_eq {s1 : Int} {f : Nat → Int} {k : Nat} : vfix s1 f k = (f k + lack0 s1 f) % 65537 := by
  unfold vfix lack0
  omega
theorem ok_iff {s1 s2 : Int} {f : Nat → Int} {k : Nat} (hk : k < 5) (hf : 0 ≤ f k ∧ f k ≤ 65535) (hs : 0 ≤ s2 ∧ s2 < 65537) : okP f (lack0 s1 f) (lack1 s2 f) k ↔ okM s1 s2 f k := by
  have lb : 0 ≤ lack0 s1 f ∧ lack0 s1 f < 65537 := by unfold lack0; omega
  have e := vfix_eq (s1 := s1) (f := f) (k := k)
  unfold okP okM
  rw [S1_up hk, ← e]
  have hv : vfix s1 f k - f k = lack0 s1 f ∨ vfix s1 f k - f k = lack0 s1 f - 65537 := by omega
  have hvb : 0 ≤ vfix s1 f k ∧ vfix s1 f k < 65537 := by omega
  unfold lack1
  generalize lack0 s1 f = L at *
  generalize S1 f = T at *
  generalize vfix s1 f k = V at *
  have key : (L * ((k : Int) + 1)) % 65537 = (s2 - T % 65537) % 65537 ↔ (T + ((k : Int) + 1) * (V - f k)) % 65537 = s2 := by
    rcases hv with hv | hv
    · rw [hv]
      rcases (show k = 0 ∨ k = 1 ∨ k = 2 ∨ k = 3 ∨ k = 4 by omega) with rfl | rfl | rfl | rfl | rfl <;> omega
    · rw [hv]
      rcases (show k = 0 ∨ k = 1 ∨ k = 2 ∨ k = 3 ∨ k = 4 by omega) with rfl | rfl | rfl | rfl | rfl <;> omega
  constructor
  · intro ⟨a, b⟩
    exact ⟨by omega, key.mp a⟩
  · intro ⟨a, b⟩
    exact ⟨key.mpr b, by omega⟩
theorem Inv_fd {n : Nat} {σ : St} {v w : Int} (hI : Inv n σ) : Inv (n + 1) (st (st σ 12 0 0 v) 12 0 32 w) := by
  obtain ⟨a_sky, a_land, a_price, a_ints, a_logA, a_logB, a_live, a_lying, a_ways, a_crews, a_dbl, a_tape, a_law, a_ord, a_spur, a_cuts, a_cru, a_kf, a_tn⟩ := hI
  unfold Inv
  simp (decide := true) only [rs_ne, rs_fn, upj_eq, upj_ne, up_eq, up_ne, ra_ne, ra_fn, upr_eq, upr_ne, not_false_eq_true, ne_eq]
  refine ⟨?_, ?_, ?_, ?_, ?_, ?_, ?_, ?_, ?_, ?_, ?_, ?_, ?_, ?_, ?_, ?_, ?_, ?_, ?_⟩
  · exact a_sky
  · exact a_land
  · exact a_price
  · exact I_ints_up a_ints
  · exact a_logA
  · exact a_logB
  · exact a_live
  · exact a_lying
  · exact a_ways
  · exact a_crews
  · exact a_dbl
  · exact a_tape
  · exact a_law
  · exact a_ord
  · exact a_spur
  · exact a_cuts
  · exact a_cru
  · exact a_kf
  · exact a_tn
theorem op_checked {n : Nat} {σ : St} {x1 x2 : Int} (hI : Inv n σ) (h1 : inR x1) (h2 : inR x2) : wp_X11_checked σ x1 x2 (fun r σ1 => wp_X12_checked σ1 x1 x2 (fun r2 σ2 => r2 = r ∧ Inv (n + 1) σ2)) := by
  have hI0 := hI
  obtain ⟨a_sky, a_land, a_price, a_ints, a_logA, a_logB, a_live, a_lying, a_ways, a_crews, a_dbl, a_tape, a_law, a_ord, a_spur, a_cuts, a_cru, a_kf, a_tn⟩ := hI
  obtain ⟨v1, v2, v3, -⟩ := id a_live
  have hno : ¬ (0 ≤ x1 ∧ x1 < σ 11 0 4 ∧ 0 ≤ x2 ∧ x2 ≤ 1) → wp_X12_checked σ x1 x2 (fun r2 σ2 => r2 = -3 ∧ Inv (n + 1) σ2) := by
    intro hc τ eτ
    have t1 : τ 12 0 17 = σ 12 0 17 := by rw [eτ, rs_eq, up_ne (by decide)]
    have hi : Inv (n + 1) τ := by rw [eτ]; exact Inv_t hI0
    unfold wp_X12_isLog
    refine wi_m h1 in0 ⟨by omega, by omega⟩ (fun a b => ⟨Or.inr rfl, in1, fun c => absurd c (by decide), fun _ => ?_⟩) (fun a => ⟨Or.inl rfl, in0, fun _ => ⟨rfl, hi⟩, fun c => absurd rfl c⟩)
    exact wi_m h2 in0 ⟨by decide, by decide⟩ (fun a2 b2 => absurd (by omega) hc) (fun a => ⟨in0, fun c => absurd rfl c, fun _ => ⟨rfl, hi⟩⟩)
  unfold wp_X11_checked
  refine logAt_x a_live h1 (fun u1 u2 => ?_) (fun u => hno (by omega))
  obtain ⟨⟨f0, f1, f2, f3, f4, f6, f14, f15⟩, fr, fs, fb⟩ := a_logA x1.toNat (by omega)
  obtain ⟨l7, l4⟩ := v3 x1.toNat (by omega)
  refine wi_x h2 in0 ⟨by decide, by decide⟩ (fun a2 b2 => ⟨in1, fun _ => ⟨l4, ?_⟩, fun c => absurd c (by decide)⟩) (fun a => ⟨in0, fun c => absurd rfl c, fun _ => hno (by omega)⟩)
  obtain ⟨l, el⟩ : ∃ l : Nat, (l : Int) = x1 := ⟨x1.toNat, by omega⟩
  have el2 : x1.toNat = l := by omega
  rw [el2] at f14 f15 fr fs l4 ⊢
  have hf5 : ∀ k, k < 5 → 0 ≤ σ 38 l k ∧ σ 38 l k ≤ 65535 := fun k hk => (fr k hk).2
  have hf6 : ∀ k, k < 5 → 0 ≤ σ 38 l k ∧ σ 38 l k ≤ 65536 := fun k hk => by have := hf5 k hk; omega
  -- the reference's answer, given the class's place
  have mm : ∀ (r v : Int), FpX (σ 4 l 14) (σ 4 l 15) (σ 38 l) r → (x2 = 0 → v = r) → (¬ x2 = 0 → r < 0 → v = -3) → (¬ x2 = 0 → ∀ k : Nat, r = k → v = (σ 38 l k + lack0 (σ 4 l 14) (σ 38 l)) % 65537) → wp_X12_checked σ x1 x2 (fun r2 σ2 => r2 = v ∧ Inv (n + 1) σ2) := by
    intro r v hr p0 p1 p2 τ eτ
    have t1 : τ 12 0 17 = σ 12 0 17 := by rw [eτ, rs_eq, up_ne (by decide)]
    have tk : ∀ k, ¬ k = 12 → τ k = σ k := fun k hk => by rw [eτ, rs_ne hk]
    have hi : Inv (n + 1) τ := by rw [eτ]; exact Inv_t hI0
    have hi2 : ∀ w, Inv (n + 1) (st τ 12 0 32 w) := fun w => by rw [eτ]; exact Inv_fd hI0
    unfold wp_X12_isLog
    refine wi_m h1 in0 ⟨by omega, by omega⟩ (fun _ _ => ⟨Or.inr rfl, in1, fun c => absurd c (by decide), fun _ => ?_⟩) (fun a => absurd (by omega) a)
    refine wi_m h2 in0 ⟨by decide, by decide⟩ (fun _ _ => ⟨in1, fun _ => ?_, fun c => absurd c (by decide)⟩) (fun a => absurd ⟨a2, b2⟩ a)
    rw [← el]
    have g1 : τ 107 0 l = σ 4 l 14 := by rw [tk 107 (by decide), f14]
    have g2 : τ 108 0 l = σ 4 l 15 := by rw [tk 108 (by decide), f15]
    have gf : ∀ k, k < 5 → τ 106 0 (5 * l + k) = σ 38 l k := fun k hk => by rw [tk 106 (by decide)]; exact ((fr k hk).1).symm
    obtain ⟨F, eF⟩ : ∃ F : Nat → Int, F = fun k => τ 106 0 (5 * l + k) := ⟨_, rfl⟩
    have gF : ∀ k, k < 5 → F k = σ 38 l k := fun k hk => by rw [eF]; exact gf k hk
    have s0 : S0 F = S0 (σ 38 l) := by unfold S0; rw [gF 0 (by omega), gF 1 (by omega), gF 2 (by omega), gF 3 (by omega), gF 4 (by omega)]
    have s1 : S1 F = S1 (σ 38 l) := by unfold S1; rw [gF 0 (by omega), gF 1 (by omega), gF 2 (by omega), gF 3 (by omega), gF 4 (by omega)]
    have l0 : lack0 (σ 4 l 14) F = lack0 (σ 4 l 14) (σ 38 l) := by unfold lack0; rw [s0]
    have l1 : lack1 (σ 4 l 15) F = lack1 (σ 4 l 15) (σ 38 l) := by unfold lack1; rw [s1]
    have okI : ∀ k : Nat, k < 5 → (okP (σ 38 l) (lack0 (σ 4 l 14) (σ 38 l)) (lack1 (σ 4 l 15) (σ 38 l)) k ↔ okM (σ 4 l 14) (σ 4 l 15) F k) := fun k hk => by
      have o := ok_iff (s1 := σ 4 l 14) (s2 := σ 4 l 15) (f := F) (k := k) hk (by rw [gF k hk]; exact hf5 k hk) (by omega)
      rw [l0, l1] at o
      rw [← o]
      unfold okP
      rw [gF k hk]
    have hx : lack0 (σ 4 l 14) (σ 38 l) = 0 ↔ S0 F % 65537 = σ 4 l 14 := by unfold lack0; rw [s0]; omega
    have hy : lack1 (σ 4 l 15) (σ 38 l) = 0 ↔ S1 F % 65537 = σ 4 l 15 := by unfold lack1; rw [s1]; omega
    refine sm_checks (f := F) (by omega) (fun k => by rw [eF]) (fun k hk => by rw [gF k hk]; exact hf5 k hk) (by rw [g1]; omega) (by rw [g2]; omega) (fun c d => ?_) (fun c d => ?_) (fun c k hk d e => ?_)
    · rw [g1] at c
      rw [g2] at d
      have er : r = -1 := by
        rcases hr with hr | hr | hr
        · exact hr.2.2
        · exact absurd (hy.mpr d) hr.2.1
        · exact absurd (hx.mpr c) hr.1
      exact ⟨h2, fun z => ⟨⟨by omega, by omega⟩, fun y => absurd y (by decide), fun _ => ⟨(p1 z (by omega)).symm, hi⟩⟩, fun z => ⟨by rw [p0 z, er], hi⟩⟩
    · rw [g1, g2] at c d
      have er : r = -2 := by
        rcases hr with hr | hr | ⟨-, r0, hr, hr2⟩
        · exact absurd ⟨hx.mp hr.1, hy.mp hr.2.1⟩ c
        · exact hr.2.2
        · rcases hr with ⟨a, -⟩ | ⟨k, a, hk, hm, -⟩
          · rw [hr2, if_pos a]
          · exact absurd ((okI k (by omega)).mp hm) (d k (by omega))
      exact ⟨h2, fun z => ⟨⟨by omega, by omega⟩, fun y => absurd y (by decide), fun _ => ⟨(p1 z (by omega)).symm, hi⟩⟩, fun z => ⟨by rw [p0 z, er], hi⟩⟩
    · rw [g1, g2] at c d e
      have er : r = (k : Int) := by
        rcases hr with hr | hr | ⟨-, r0, hr, hr2⟩
        · exact absurd ⟨hx.mp hr.1, hy.mp hr.2.1⟩ c
        · exfalso
          obtain ⟨d1, d2⟩ := (okI k hk).mpr d
          rw [hr.1] at d1
          exact hr.2.1 (by rw [← d1]; rw [Int.zero_mul]; rfl)
        · rcases hr with ⟨a, b⟩ | ⟨k', a, hk', hm, b⟩
          · exact absurd ((okI k hk).mpr d) (b k (by omega))
          · rw [hr2, if_neg (by omega), a]
            rcases Nat.lt_trichotomy k k' with z | z | z
            · exact absurd ((okI k hk).mpr d) (b k z)
            · omega
            · exact absurd ((okI k' (by omega)).mp hm) (e k' z)
      refine ⟨h2, fun z => ⟨⟨by omega, by omega⟩, fun _ => ⟨?_, hi2 _⟩, fun y => absurd (by omega) y⟩, fun z => ⟨by rw [p0 z, er], hi2 _⟩⟩
      rw [rs_eq, up_eq, g1, vfix_eq, gF k hk, l0, p2 z k er]
  refine sx_faultyPlace l4 (by omega) (by omega) hf6 (fun r hr => ?_)
  have rb : -2 ≤ r ∧ r ≤ 4 := by
    rcases hr with hr | hr | ⟨-, r0, hr, hr2⟩
    · omega
    · omega
    · rcases hr with ⟨a, -⟩ | ⟨k, a, hk, -⟩
      · rw [hr2, if_pos a]
        omega
      · rw [hr2, if_neg (by omega)]
        omega
  refine ⟨h2, fun c => ⟨⟨by omega, by omega⟩, fun d => ⟨l4, ?_⟩, fun d => mm r (-3) hr (fun z => absurd z c) (fun _ _ => rfl) (fun _ k hk => absurd hk (by omega))⟩, fun c => mm r r hr (fun _ => rfl) (fun z => absurd c z) (fun z => absurd c z)⟩
  obtain ⟨k, ek⟩ : ∃ k : Nat, (k : Int) = r := ⟨r.toNat, by omega⟩
  have s := sx_rightNumber (σ := σ) (j := l) (p := k) (Q := fun r σ1 => wp_X12_checked σ1 x1 x2 (fun r2 σ2 => r2 = r ∧ Inv (n + 1) σ2)) (by omega) l4 (by omega) hf6 (mm r _ hr (fun z => absurd z c) (fun _ z => absurd d (by omega)) (fun _ k' hk' => by rw [show k' = k by omega]))
  rw [ek] at s
  exact s
