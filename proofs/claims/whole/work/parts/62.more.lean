/-! a log's number is altered, what the mill knew, crews leave, crews and ways are made -/
theorem sx_alter {σ : St} {x1 x2 x3 : Int} {Q : Int → St → Prop} (h1 : inR x1) (h2 : inR x2) (h3 : inR x3) (f1 : 0 ≤ σ 11 0 4) (f2 : σ 11 0 4 ≤ 300) (f3 : 0 ≤ x1 ∧ x1 < σ 11 0 4 → ¬ σ 77 0 x1.toNat = 0 ∧ ¬ σ 50 4 x1.toNat = 0) (q1 : 0 ≤ x1 ∧ x1 < σ 11 0 4 ∧ 0 ≤ x2 ∧ x2 ≤ 4 ∧ 1 ≤ x3 ∧ x3 ≤ 65535 → ∀ r : Int, r = 1 → Q r (st σ 38 x1.toNat (Int.toNat x2) (i_ixor (σ 38 x1.toNat (Int.toNat x2)) x3))) (q0 : ¬ (0 ≤ x1 ∧ x1 < σ 11 0 4 ∧ 0 ≤ x2 ∧ x2 ≤ 4 ∧ 1 ≤ x3 ∧ x3 ≤ 65535) → Q 0 σ) : wp_X11_alter σ x1 x2 x3 Q := by
  simp (decide := true) only [rs_ne, rs_fn, upj_eq, upj_ne, up_eq, up_ne, ra_ne, ra_fn, upr_eq, upr_ne, not_false_eq_true, ne_eq, wp_X11_alter, wp_X11_logAt, forall_eq]
  repeat' first
    | with_reducible assumption
    | with_reducible rfl
    | with_reducible exact True.intro
    | (with_reducible exact Or.inl rfl)
    | (with_reducible exact Or.inr rfl)
    | (apply inR_i <;> decide)
    | with_reducible apply wi_x
    | with_reducible apply wi_m
    | with_reducible apply And.intro
    | (intro σ9 e9; subst e9)
    | intro _
  all_goals first
    | omega
    | (exfalso; omega)
    | (constructor <;> omega)
    | (exact q1 (by omega) _ (by omega))
    | (exact q0 (by omega))
theorem sm_alter {σ : St} {x1 x2 x3 : Int} {Q : Int → St → Prop} (h1 : inR x1) (h2 : inR x2) (h3 : inR x3) (f1 : 0 ≤ σ 12 0 17) (f2 : σ 12 0 17 ≤ 300) (q1 : 0 ≤ x1 ∧ x1 < σ 12 0 17 ∧ 0 ≤ x2 ∧ x2 ≤ 4 ∧ 1 ≤ x3 ∧ x3 ≤ 65535 → ∀ r : Int, r = 1 → Q r (st (st σ 12 0 0 0) 106 0 (Int.toNat (5 * x1 + x2)) (i_ixor (σ 106 0 (Int.toNat (5 * x1 + x2))) x3))) (q0 : ¬ (0 ≤ x1 ∧ x1 < σ 12 0 17 ∧ 0 ≤ x2 ∧ x2 ≤ 4 ∧ 1 ≤ x3 ∧ x3 ≤ 65535) → Q 0 (st σ 12 0 0 0)) : wp_X12_alter σ x1 x2 x3 Q := by
  unfold wp_X12_alter
  intro τ eτ
  have g17 : τ 12 0 17 = σ 12 0 17 := by rw [eτ, rs_eq, up_ne (by decide)]
  have b106 : τ 106 = σ 106 := by rw [eτ, rs_ne (by decide)]
  rw [← eτ] at q1 q0
  try simp only [← g17] at q1 q0 f1 f2
  try simp only [← b106] at q1 q0 f1 f2
  clear eτ b106 g17
  try simp (decide := true) only [rs_ne, rs_fn, upj_eq, upj_ne, up_eq, up_ne, ra_ne, ra_fn, upr_eq, upr_ne, not_false_eq_true, ne_eq, wp_X12_isLog, forall_eq]
  repeat' first
    | with_reducible assumption
    | with_reducible rfl
    | with_reducible exact True.intro
    | (with_reducible exact Or.inl rfl)
    | (with_reducible exact Or.inr rfl)
    | (apply inR_i <;> decide)
    | with_reducible apply wi_x
    | with_reducible apply wi_m
    | with_reducible apply And.intro
    | (intro σ9 e9; subst e9)
    | intro _
  all_goals first
    | omega
    | (exfalso; omega)
    | (constructor <;> omega)
    | (exact q1 (by omega) _ (by omega))
    | (exact q0 (by omega))
theorem I_logA_alter {lc v : Int} {G RG : Nat → Nat → Int} {sort units wide day brand fault reg s1 s2 : Nat → Int} {j p : Nat} (h : I_logA lc G RG sort units wide day brand fault reg s1 s2) (hj : (j : Int) < lc) (hp : p < 5) (hv : 0 ≤ v ∧ v ≤ 65535) : I_logA lc G (upj RG j p v) sort units wide day brand fault (up reg (5 * j + p) v) s1 s2 := by
  intro i hi
  obtain ⟨g1, g2, g3⟩ := h i hi
  refine ⟨g1, fun k hk => ?_, g3⟩
  by_cases q : i = j
  · subst q
    rw [upj_eq]
    by_cases q2 : k = p
    · subst q2
      rw [up_eq]
      show v = up reg (5 * i + k) v (5 * i + k) ∧ _
      rw [up_eq]
      exact ⟨rfl, hv⟩
    · rw [up_ne q2]
      show RG i k = up reg (5 * i + p) v (5 * i + k) ∧ _
      rw [up_ne (by omega)]
      exact g2 k hk
  · rw [upj_ne q]
    show RG i k = up reg (5 * j + p) v (5 * i + k) ∧ _
    rw [up_ne (by omega)]
    exact g2 k hk
theorem op_alter {n : Nat} {σ : St} {x1 x2 x3 : Int} (hI : Inv n σ) (h1 : inR x1) (h2 : inR x2) (h3 : inR x3) : wp_X11_alter σ x1 x2 x3 (fun r σ1 => wp_X12_alter σ1 x1 x2 x3 (fun r2 σ2 => r2 = r ∧ Inv (n + 1) σ2)) := by
  have hI0 := hI
  obtain ⟨a_sky, a_land, a_price, a_ints, a_logA, a_logB, a_live, a_lying, a_ways, a_crews, a_dbl, a_tape, a_law, a_ord, a_spur, a_cuts, a_cru, a_kf, a_tn⟩ := hI
  obtain ⟨v1, v2, v3, -⟩ := id a_live
  refine sx_alter h1 h2 h3 (by omega) (by omega) (fun hx => v3 x1.toNat (by omega)) (fun hc r9 e9 => ?_) (fun hc => ?_)
  · obtain ⟨-, fr, -⟩ := a_logA x1.toNat (by omega)
    obtain ⟨fr1, fr2, fr3⟩ := fr (Int.toNat x2) (by omega)
    have ex : σ 106 0 (Int.toNat (5 * x1 + x2)) = σ 38 x1.toNat (Int.toNat x2) := by
      rw [fr1, show Int.toNat (5 * x1 + x2) = 5 * x1.toNat + x2.toNat by omega]
    have xb := xor_n (a := (σ 38 x1.toNat (Int.toNat x2)).toNat) (b := x3.toNat) (m := 16) (by omega) (by omega) (by decide)
    rw [show (((σ 38 x1.toNat (Int.toNat x2)).toNat : Nat) : Int) = σ 38 x1.toNat (Int.toNat x2) by omega, show ((x3.toNat : Nat) : Int) = x3 by omega] at xb
    obtain ⟨v, ev⟩ : ∃ v, v = i_ixor (σ 38 x1.toNat (Int.toNat x2)) x3 := ⟨_, rfl⟩
    rw [← ev]
    obtain ⟨τ, eτ⟩ : ∃ τ : St, τ = st σ 38 x1.toNat (Int.toNat x2) v := ⟨_, rfl⟩
    rw [← eτ]
    have q0 : τ 12 = σ 12 := by rw [eτ, rs_ne (by decide)]
    have q1 : τ 12 0 17 = σ 12 0 17 := by rw [q0]
    have q2 : τ 106 = σ 106 := by rw [eτ, rs_ne (by decide)]
    have hv : 0 ≤ v ∧ v ≤ 65535 := by
      rw [ev, xb.1]
      have := xb.2
      omega
    refine sm_alter h1 h2 h3 (by omega) (by omega) (fun hd r8 e8 => ⟨by omega, ?_⟩) (fun hd => absurd (by omega) hd)
    rw [q2, ex, ← ev, eτ, show Int.toNat (5 * x1 + x2) = 5 * x1.toNat + x2.toNat by omega]
    unfold Inv
    simp (decide := true) only [rs_ne, rs_fn, upj_eq, upj_ne, up_eq, up_ne, ra_ne, ra_fn, upr_eq, upr_ne, not_false_eq_true, ne_eq]
    refine ⟨?_, ?_, ?_, ?_, ?_, ?_, ?_, ?_, ?_, ?_, ?_, ?_, ?_, ?_, ?_, ?_, ?_, ?_, ?_⟩
    · exact a_sky
    · exact a_land
    · exact a_price
    · exact I_ints_up a_ints
    · exact I_logA_alter a_logA (by omega) (by omega) hv
    · exact a_logB
    · exact a_live
    · exact a_lying
    · exact a_ways
    · exact a_crews
    · exact a_dbl
    · exact a_tape
    · exact a_law
    · exact a_ord
    · exact a_spur
    · exact a_cuts
    · exact a_cru
    · exact a_kf
    · exact a_tn
  · refine sm_alter h1 h2 h3 (by omega) (by omega) (fun hd => absurd (by omega) hc) (fun hd => ⟨rfl, Inv_t hI0⟩)
theorem knx_loop {σ : St} {j : Nat} {d k9 m : Int} {Q : Int → St → Prop} (hl : σ 50 4 j ≠ 0) (hm : m ≤ 4) (hr : ∀ q : Nat, (q : Int) < m → inR (σ 36 j q) ∧ inR (σ 37 j q)) (hd : inR d) (hk : inR k9) (q : ∀ r, lastv m (fun q => σ 36 j q ≤ d ∧ σ 37 j q ≤ k9) (fun q => σ 35 j q) (-1) r → Q r σ) :
    ∀ (k n : Nat), (k : Int) ≤ m → k < n → (∀ k' : Nat, k ≤ k' → (k' : Int) < m → ¬ (σ 36 j k' ≤ d ∧ σ 37 j k' ≤ k9)) → wp_X4_knownAs_7 (wp_X4_knownAs_31 Q) Q n σ j d k9 ((k : Int) - 1) := by
  intro k
  induction k with
  | zero =>
    intro n hi hn hf
    obtain ⟨n, rfl⟩ : ∃ n', n = n' + 1 := ⟨n - 1, by omega⟩
    unfold wp_X4_knownAs_7
    exact ⟨⟨by omega, by omega⟩, fun _ => q _ (Or.inl ⟨rfl, fun k' hk => hf k' (by omega) hk⟩), fun z => absurd (by omega) z⟩
  | succ k ih =>
    intro n hi hn hf
    obtain ⟨n, rfl⟩ : ∃ n', n = n' + 1 := ⟨n - 1, by omega⟩
    obtain ⟨r1, r2⟩ := hr k (by omega)
    have nx : ¬ (σ 36 j k ≤ d ∧ σ 37 j k ≤ k9) → wp_X4_knownAs_38 (fun σ j0 x1 x2 x3 => wp_X4_knownAs_7 (wp_X4_knownAs_31 Q) Q n σ j0 x1 x2 x3) (wp_X4_knownAs_31 Q) Q σ j d k9 (((k + 1 : Nat) : Int) - 1) := by
      intro hno
      unfold wp_X4_knownAs_38
      rw [show (((k + 1 : Nat) : Int) - 1) + (-1) = (k : Int) - 1 by omega]
      refine ih n (by omega) (by omega) (fun k' hk hk2 => ?_)
      by_cases e : k' = k
      · rw [e]
        exact hno
      · exact hf k' (by omega) hk2
    unfold wp_X4_knownAs_7
    rw [show Int.toNat (((k + 1 : Nat) : Int) - 1) = k by omega]
    refine ⟨⟨by omega, by omega⟩, fun z => absurd z (by omega), fun _ => ⟨hl, hl, by omega, by omega, r1, hd, fun c => nx (by omega), fun c => ⟨hl, hl, by omega, by omega, r2, hk, fun c2 => nx (by omega), fun c2 => ?_⟩⟩⟩
    unfold wp_X4_knownAs_31
    rw [show Int.toNat (((k + 1 : Nat) : Int) - 1) = k by omega]
    exact ⟨hl, hl, by omega, by omega, q _ (Or.inr ⟨k, rfl, by omega, ⟨by omega, by omega⟩, fun k' hk hk2 => hf k' (by omega) hk2⟩)⟩
theorem knm_loop {σ : St} {l : Nat} {d k9 : Int} {Q : Int → St → Prop} (hl : l < 300) (hr : ∀ q : Nat, q < 5 → inR (σ 104 0 (5 * l + q)) ∧ inR (σ 105 0 (5 * l + q))) (hd : inR d) (hk : inR k9) (q : ∀ r, lastv 5 (fun s => ¬ σ 104 0 (5 * l + s) = -1 ∧ σ 104 0 (5 * l + s) ≤ d ∧ σ 105 0 (5 * l + s) ≤ k9) (fun s => (s : Int)) (-1) r → Q r σ) :
    ∀ (k i n : Nat) (v : Int), i + k = 5 → k < n → lastv (i : Int) (fun s => ¬ σ 104 0 (5 * l + s) = -1 ∧ σ 104 0 (5 * l + s) ≤ d ∧ σ 105 0 (5 * l + s) ≤ k9) (fun s => (s : Int)) (-1) v → wp_X12_knew_43 Q n σ l d k9 v i := by
  intro k
  induction k with
  | zero =>
    intro i n v hi hn hf
    obtain ⟨n, rfl⟩ : ∃ n', n = n' + 1 := ⟨n - 1, by omega⟩
    unfold wp_X12_knew_43
    rw [show (i : Int) = 5 by omega] at hf
    exact ⟨⟨by omega, by omega⟩, fun _ => q _ hf, fun z => absurd (by omega) z⟩
  | succ k ih =>
    intro i n v hi hn hf
    obtain ⟨n, rfl⟩ : ∃ n', n = n' + 1 := ⟨n - 1, by omega⟩
    obtain ⟨r1, r2⟩ := hr i (by omega)
    have nx : ∀ w, ¬ (¬ σ 104 0 (5 * l + i) = -1 ∧ σ 104 0 (5 * l + i) ≤ d ∧ σ 105 0 (5 * l + i) ≤ k9) ∧ w = v ∨ (¬ σ 104 0 (5 * l + i) = -1 ∧ σ 104 0 (5 * l + i) ≤ d ∧ σ 105 0 (5 * l + i) ≤ k9) ∧ w = (i : Int) → wp_X12_knew_98 (fun σ x1 x2 x3 x4 x5 => wp_X12_knew_43 Q n σ x1 x2 x3 x4 x5) Q σ l d k9 w i := by
      intro w hw
      unfold wp_X12_knew_98
      rw [show ((i : Int) + 1) = ((i + 1 : Nat) : Int) by omega]
      refine ih (i + 1) n w (by omega) (by omega) ?_
      rcases hw with ⟨hno, rfl⟩ | ⟨hy, rfl⟩
      · rcases hf with ⟨a1, a2⟩ | ⟨k9, a1, a2, a3, a4⟩
        · refine Or.inl ⟨a1, fun k' hk => ?_⟩
          by_cases e : k' = i
          · rw [e]
            exact hno
          · exact a2 k' (by omega)
        · refine Or.inr ⟨k9, a1, by omega, a3, fun k' hk hk2 => ?_⟩
          by_cases e : k' = i
          · rw [e]
            exact hno
          · exact a4 k' hk (by omega)
      · exact Or.inr ⟨i, rfl, by omega, hy, fun k' hk hk2 => absurd hk2 (by omega)⟩
    unfold wp_X12_knew_43
    rw [show Int.toNat (5 * (l : Int) + (i : Int)) = 5 * l + i by omega]
    exact ⟨⟨by omega, by omega⟩, fun z => absurd z (by omega), fun _ => ⟨by omega, by omega, r1, fun c => nx _ (Or.inl ⟨fun h => h.1 c, rfl⟩), fun c => ⟨by omega, by omega, r1, hd, fun c2 => nx _ (Or.inl ⟨by omega, rfl⟩), fun c2 => ⟨by omega, by omega, r2, hk, fun c3 => nx _ (Or.inl ⟨by omega, rfl⟩), fun c3 => nx _ (Or.inr ⟨⟨c, by omega, by omega⟩, rfl⟩)⟩⟩⟩⟩
/-- changes in their order, and states in theirs: the latest is the same -/
theorem hist_known {cn state d k r r' : Int} {to dy kn ch kf : Nat → Int} (h : Hist cn state to dy kn ch kf) (hd : 0 ≤ d) (a : lastv cn (fun q => dy q ≤ d ∧ kn q ≤ k) (fun q => to q) (-1) r) (b : lastv 5 (fun s => ¬ ch s = -1 ∧ ch s ≤ d ∧ kf s ≤ k) (fun s => (s : Int)) (-1) r') : r' = r := by
  obtain ⟨⟨t0, d0, k0, c0⟩, h⟩ := h
  have b' : (r' = -1 ∧ (∀ s : Nat, s < 5 → ¬ (¬ ch s = -1 ∧ ch s ≤ d ∧ kf s ≤ k))) ∨ ∃ s : Nat, r' = s ∧ s < 5 ∧ (¬ ch s = -1 ∧ ch s ≤ d ∧ kf s ≤ k) ∧ ∀ s' : Nat, s < s' → s' < 5 → ¬ (¬ ch s' = -1 ∧ ch s' ≤ d ∧ kf s' ≤ k) := by
    rcases b with ⟨b1, b2⟩ | ⟨s, b1, b2, b3, b4⟩
    · exact Or.inl ⟨b1, fun s hs => b2 s (by omega)⟩
    · exact Or.inr ⟨s, b1, by omega, b3, fun s' h1 h2 => b4 s' h1 (by omega)⟩
  clear b
  have n0 : ∀ m : Nat, (m : Int) = cn → (r = -1 ∧ (∀ q : Nat, q < m → ¬ (dy q ≤ d ∧ kn q ≤ k))) ∨ ∃ q : Nat, r = to q ∧ q < m ∧ (dy q ≤ d ∧ kn q ≤ k) ∧ ∀ q' : Nat, q < q' → q' < m → ¬ (dy q' ≤ d ∧ kn q' ≤ k) := by
    intro m hm
    rcases a with ⟨b1, b2⟩ | ⟨s, b1, b2, b3, b4⟩
    · exact Or.inl ⟨b1, fun s hs => b2 s (by omega)⟩
    · exact Or.inr ⟨s, b1, by omega, b3, fun s' h1 h2 => b4 s' h1 (by omega)⟩
  clear a
  have five : ∀ s : Nat, s < 5 → s = 0 ∨ s = 1 ∨ s = 2 ∨ s = 3 ∨ s = 4 := by omega
  have three : ∀ s : Nat, s < 3 → s = 0 ∨ s = 1 ∨ s = 2 := by omega
  rcases b' with ⟨b1, b2⟩ | ⟨s, b1, b2, b3, b4⟩
  · have z0 := b2 0 (by omega)
    have z1 := b2 1 (by omega)
    have z2 := b2 2 (by omega)
    have z3 := b2 3 (by omega)
    have z4 := b2 4 (by omega)
    clear b2
    rcases h with h | h | h | h | h
    · rcases n0 1 (by omega) with ⟨a1, -⟩ | ⟨q, a1, a2, a3, -⟩
      · omega
      · rcases (show q = 0 by omega) with rfl
        omega
    · rcases n0 2 (by omega) with ⟨a1, -⟩ | ⟨q, a1, a2, a3, -⟩
      · omega
      · rcases three q (by omega) with rfl | rfl | rfl <;> omega
    · rcases n0 3 (by omega) with ⟨a1, -⟩ | ⟨q, a1, a2, a3, -⟩
      · omega
      · rcases three q (by omega) with rfl | rfl | rfl <;> omega
    · rcases n0 2 (by omega) with ⟨a1, -⟩ | ⟨q, a1, a2, a3, -⟩
      · omega
      · rcases three q (by omega) with rfl | rfl | rfl <;> omega
    · rcases n0 2 (by omega) with ⟨a1, -⟩ | ⟨q, a1, a2, a3, -⟩
      · omega
      · rcases three q (by omega) with rfl | rfl | rfl <;> omega
  · have z1 := b4 1
    have z2 := b4 2
    have z3 := b4 3
    have z4 := b4 4
    clear b4
    rcases h with h | h | h | h | h
    · rcases n0 1 (by omega) with ⟨a1, a5⟩ | ⟨q, a1, a2, a3, a4⟩
      · have y0 := a5 0 (by omega)
        rcases five s b2 with rfl | rfl | rfl | rfl | rfl <;> omega
      · rcases (show q = 0 by omega) with rfl
        rcases five s b2 with rfl | rfl | rfl | rfl | rfl <;> omega
    · rcases n0 2 (by omega) with ⟨a1, a5⟩ | ⟨q, a1, a2, a3, a4⟩
      · have y0 := a5 0 (by omega)
        have y1 := a5 1 (by omega)
        rcases five s b2 with rfl | rfl | rfl | rfl | rfl <;> omega
      · have y1 := a4 1
        rcases three q (by omega) with rfl | rfl | rfl <;> rcases five s b2 with rfl | rfl | rfl | rfl | rfl <;> omega
    · rcases n0 3 (by omega) with ⟨a1, a5⟩ | ⟨q, a1, a2, a3, a4⟩
      · have y0 := a5 0 (by omega)
        have y1 := a5 1 (by omega)
        have y2 := a5 2 (by omega)
        rcases five s b2 with rfl | rfl | rfl | rfl | rfl <;> omega
      · have y1 := a4 1
        have y2 := a4 2
        rcases three q (by omega) with rfl | rfl | rfl <;> rcases five s b2 with rfl | rfl | rfl | rfl | rfl <;> omega
    · rcases n0 2 (by omega) with ⟨a1, a5⟩ | ⟨q, a1, a2, a3, a4⟩
      · have y0 := a5 0 (by omega)
        have y1 := a5 1 (by omega)
        rcases five s b2 with rfl | rfl | rfl | rfl | rfl <;> omega
      · have y1 := a4 1
        rcases three q (by omega) with rfl | rfl | rfl <;> rcases five s b2 with rfl | rfl | rfl | rfl | rfl <;> omega
    · rcases n0 2 (by omega) with ⟨a1, a5⟩ | ⟨q, a1, a2, a3, a4⟩
      · have y0 := a5 0 (by omega)
        have y1 := a5 1 (by omega)
        rcases five s b2 with rfl | rfl | rfl | rfl | rfl <;> omega
      · have y1 := a4 1
        rcases three q (by omega) with rfl | rfl | rfl <;> rcases five s b2 with rfl | rfl | rfl | rfl | rfl <;> omega
theorem op_knew {n : Nat} {σ : St} {x1 x2 x3 : Int} (hI : Inv n σ) (h1 : inR x1) (h2 : inR x2) (h3 : inR x3) : wp_X11_knew σ x1 x2 x3 (fun r σ1 => wp_X12_knew σ1 x1 x2 x3 (fun r2 σ2 => r2 = r ∧ Inv (n + 1) σ2)) := by
  have hI0 := hI
  obtain ⟨a_sky, a_land, a_price, a_ints, a_logA, a_logB, a_live, a_lying, a_ways, a_crews, a_dbl, a_tape, a_law, a_ord, a_spur, a_cuts, a_cru, a_kf, a_tn⟩ := hI
  obtain ⟨v1, v2, v3, -⟩ := id a_live
  obtain ⟨⟨k1, k2, k3⟩, k4, -⟩ := id a_sky
  have hm : ∀ P : Int → Prop, (0 ≤ x1 ∧ x1 < σ 11 0 4 ∧ 0 ≤ x3 ∧ x3 ≤ σ 7 0 3 ∧ 0 ≤ x2 ∧ x2 ≤ x3 → ∀ r, lastv 5 (fun s => ¬ σ 104 0 (5 * x1.toNat + s) = -1 ∧ σ 104 0 (5 * x1.toNat + s) ≤ x2 ∧ σ 105 0 (5 * x1.toNat + s) ≤ x3) (fun s => (s : Int)) (-1) r → P r) → (¬ (0 ≤ x1 ∧ x1 < σ 11 0 4 ∧ 0 ≤ x3 ∧ x3 ≤ σ 7 0 3 ∧ 0 ≤ x2 ∧ x2 ≤ x3) → P (-2)) → wp_X12_knew σ x1 x2 x3 (fun r2 σ2 => P r2 ∧ Inv (n + 1) σ2) := by
    intro P hp1 hp0 τ eτ
    have t1 : τ 12 0 17 = σ 12 0 17 := by rw [eτ, rs_eq, up_ne (by decide)]
    have t2 : τ 12 0 1 = σ 12 0 1 := by rw [eτ, rs_eq, up_ne (by decide)]
    have t3 : τ 104 = σ 104 := by rw [eτ, rs_ne (by decide)]
    have t4 : τ 105 = σ 105 := by rw [eτ, rs_ne (by decide)]
    have hi : Inv (n + 1) τ := by rw [eτ]; exact Inv_t hI0
    unfold wp_X12_isLog
    refine wi_m h1 in0 ⟨by omega, by omega⟩ (fun a b => ⟨Or.inr rfl, in1, fun c => absurd c (by decide), fun _ => ?_⟩) (fun a => ⟨Or.inl rfl, in0, fun _ => ⟨hp0 (by omega), hi⟩, fun c => absurd rfl c⟩)
    refine wi_m h3 in0 ⟨by omega, by omega⟩ (fun a3 b3 => ⟨in1, fun c => absurd c (by decide), fun _ => ?_⟩) (fun a => ⟨in0, fun _ => ⟨hp0 (by omega), hi⟩, fun c => absurd rfl c⟩)
    refine wi_m h2 in0 h3 (fun a2 b2 => ⟨in1, fun _ => ⟨6, ?_⟩, fun c => absurd c (by decide)⟩) (fun a => ⟨in0, fun c => absurd rfl c, fun _ => ⟨hp0 (by omega), hi⟩⟩)
    obtain ⟨-, -, -, gk⟩ := a_logB x1.toNat (by omega)
    have e := knm_loop (σ := τ) (l := x1.toNat) (d := x2) (k9 := x3) (Q := fun r2 σ2 => P r2 ∧ Inv (n + 1) σ2) (by omega) (fun q hq => by rw [t3, t4]; have := gk q hq; dsimp only at this; exact ⟨⟨by omega, by omega⟩, ⟨by omega, by omega⟩⟩) h2 h3 (fun r hr => ⟨hp1 (by omega) r (by rw [t3, t4] at hr; exact hr), hi⟩) 5 0 6 (-1) (by omega) (by omega) (Or.inl ⟨rfl, fun k' hk => absurd hk (by omega)⟩)
    rw [show ((x1.toNat : Nat) : Int) = x1 by omega] at e
    exact e
  have hno : ¬ (0 ≤ x1 ∧ x1 < σ 11 0 4 ∧ 0 ≤ x3 ∧ x3 ≤ σ 7 0 3 ∧ 0 ≤ x2 ∧ x2 ≤ x3) → wp_X12_knew σ x1 x2 x3 (fun r2 σ2 => r2 = -2 ∧ Inv (n + 1) σ2) := fun hc => hm (fun r => r = -2) (fun hd => absurd hd hc) (fun _ => rfl)
  unfold wp_X11_knew
  refine logAt_x a_live h1 (fun u1 u2 => ?_) (fun u => hno (by omega))
  obtain ⟨⟨g5, g7, g8⟩, gh, gc, gk⟩ := a_logB x1.toNat (by omega)
  obtain ⟨l7, l4⟩ := v3 x1.toNat (by omega)
  refine wi_x h3 in0 ⟨by omega, by omega⟩ (fun a3 b3 => ⟨in1, fun c => absurd c (by decide), fun _ => ?_⟩) (fun a => ⟨in0, fun _ => hno (by omega), fun c => absurd rfl c⟩)
  refine wi_x h2 in0 h3 (fun a2 b2 => ⟨in1, fun _ => ⟨l4, l4, fun v9 e9 => ⟨5, ?_⟩⟩, fun c => absurd c (by decide)⟩) (fun a => ⟨in0, fun c => absurd rfl c, fun _ => hno (by omega)⟩)
  have hcn : 1 ≤ σ 4 x1.toNat 9 ∧ σ 4 x1.toNat 9 ≤ 3 := by
    obtain ⟨-, h⟩ := gh
    rcases h with h | h | h | h | h <;> omega
  have hcr : ∀ q : Nat, (q : Int) < σ 4 x1.toNat 9 → inR (σ 36 x1.toNat q) ∧ inR (σ 37 x1.toNat q) := by
    intro q hq
    have z0 := gk 0 (by omega)
    have z1 := gk 1 (by omega)
    have z2 := gk 2 (by omega)
    have z3 := gk 3 (by omega)
    have z4 := gk 4 (by omega)
    obtain ⟨h0, h⟩ := gh
    have three : q = 0 ∨ q = 1 ∨ q = 2 := by omega
    clear gk hno hm
    rcases three with rfl | rfl | rfl <;> rcases h with h | h | h | h | h <;> exact ⟨⟨by omega, by omega⟩, ⟨by omega, by omega⟩⟩
  have e := knx_loop (σ := σ) (j := x1.toNat) (d := x2) (k9 := x3) (m := σ 4 x1.toNat 9) (Q := fun r σ1 => wp_X12_knew σ1 x1 x2 x3 (fun r2 σ2 => r2 = r ∧ Inv (n + 1) σ2)) l4 (by omega) hcr h2 h3 (fun r hr => hm (fun r2 => r2 = r) (fun _ r2 hr2 => hist_known gh a2 hr hr2) (fun hc => absurd ⟨u1, u2, a3, b3, a2, b2⟩ hc)) (σ 4 x1.toNat 9).toNat 5 (by omega) (by omega) (fun k' hk hk2 => absurd hk (by omega))
  rw [show (((σ 4 x1.toNat 9).toNat : Nat) : Int) - 1 = v9 by omega] at e
  exact e
