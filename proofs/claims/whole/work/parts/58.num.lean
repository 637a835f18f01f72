/-! pay, credit, rent -/
def dflt (verb : Int) : Int := if verb = 1 then 2 else if verb = 2 then 50 else 5
theorem num_loop {σ : St} {t : Nat} {m verb : Int} {Q : Int → St → Prop} (ht : t < 20) (hm : 0 ≤ m ∧ m ≤ 12) (hr : ∀ k : Nat, (k : Int) < m → (0 ≤ σ 68 0 (12 * t + k) ∧ σ 68 0 (12 * t + k) ≤ 3 ∧ 0 ≤ σ 69 0 (12 * t + k) ∧ σ 69 0 (12 * t + k) ≤ 9999) ∧ TmR (σ 71 0) (σ 72 0) (σ 73 0) (σ 74 0) (12 * t + k) (σ 70 0 (12 * t + k))) (hd : 1 ≤ verb ∧ verb ≤ 3) (hF : ∀ i, i < 13 → inR (σ 75 0 i))
    (q : ∀ r, lastv m (fun k => σ 68 0 (12 * t + k) = verb ∧ Hd (σ 75 0) (σ 71 0) (σ 72 0) (σ 73 0) (σ 74 0) (12 * t + k) (σ 70 0 (12 * t + k))) (fun k => σ 69 0 (12 * t + k)) (dflt verb) r → Q r σ) :
    ∀ (k n : Nat), (k : Int) ≤ m → k < n → (∀ k' : Nat, k ≤ k' → (k' : Int) < m → ¬ (σ 68 0 (12 * t + k') = verb ∧ Hd (σ 75 0) (σ 71 0) (σ 72 0) (σ 73 0) (σ 74 0) (12 * t + k') (σ 70 0 (12 * t + k')))) → wp_X8_numberOn_29 (wp_X8_numberOn_63 Q) (wp_X8_numberOn_77 Q) Q n σ verb t ((k : Int) - 1) := by
  intro k
  induction k with
  | zero =>
    intro n hi hn hf
    obtain ⟨n, rfl⟩ : ∃ n', n = n' + 1 := ⟨n - 1, by omega⟩
    unfold wp_X8_numberOn_29 wp_X8_numberOn_77
    have hq := q (dflt verb) (Or.inl ⟨rfl, fun k' hk => hf k' (by omega) hk⟩)
    refine ⟨⟨by omega, by omega⟩, fun _ => wi_x ⟨by omega, by omega⟩ ⟨by decide, by decide⟩ ⟨by decide, by decide⟩ (fun a b => ⟨⟨by decide, by decide⟩, fun z => absurd z (by decide), fun _ => ⟨by omega, by omega, ?_⟩⟩) (fun z => absurd hd z), fun h => absurd (by omega) h⟩
    rcases (show verb = 1 ∨ verb = 2 ∨ verb = 3 by omega) with rfl | rfl | rfl
    · exact hq
    · exact hq
    · exact hq
  | succ k ih =>
    intro n hi hn hf
    obtain ⟨n, rfl⟩ : ∃ n', n = n' + 1 := ⟨n - 1, by omega⟩
    obtain ⟨r1, r2⟩ := hr k (by omega)
    have nx : ¬ (σ 68 0 (12 * t + k) = verb ∧ Hd (σ 75 0) (σ 71 0) (σ 72 0) (σ 73 0) (σ 74 0) (12 * t + k) (σ 70 0 (12 * t + k))) → wp_X8_numberOn_71 (fun σ x2 x3 x5 => wp_X8_numberOn_29 (wp_X8_numberOn_63 Q) (wp_X8_numberOn_77 Q) Q n σ x2 x3 x5) (wp_X8_numberOn_63 Q) (wp_X8_numberOn_77 Q) Q σ verb t (((k + 1 : Nat) : Int) - 1) := by
      intro hno
      unfold wp_X8_numberOn_71
      rw [show (((k + 1 : Nat) : Int) - 1) + (-1) = (k : Int) - 1 by omega]
      refine ih n (by omega) (by omega) (fun k' hk hk2 => ?_)
      by_cases e : k' = k
      · rw [e]
        exact hno
      · exact hf k' (by omega) hk2
    unfold wp_X8_numberOn_29
    refine ⟨⟨by omega, by omega⟩, fun z => absurd z (by omega), fun _ v9 e9 => ?_⟩
    rw [show v9 = ((12 * t + k : Nat) : Int) by omega, Int.toNat_natCast]
    refine ⟨by omega, by omega, ⟨by omega, by omega⟩, ⟨by omega, by omega⟩, fun d => nx (fun h => d h.1), fun d => sx_holds rfl (by omega) r2 hF (fun hh => ⟨⟨by decide, by decide⟩, fun z => absurd z (by decide), fun _ => ?_⟩) (fun hh => ⟨⟨by decide, by decide⟩, fun _ => nx (fun h => hh h.2), fun z => absurd rfl z⟩)⟩
    unfold wp_X8_numberOn_63
    rw [Int.toNat_natCast]
    exact ⟨by omega, by omega, q _ (Or.inr ⟨k, rfl, by omega, ⟨d, hh⟩, fun k' hk hk2 => hf k' (by omega) hk2⟩)⟩
def NumX (σ : St) (today verb r : Int) : Prop := lastv (tmany (σ 66 0) (σ 67 0) today (σ 8 0 10)) (fun k => σ 68 0 (12 * tforce (σ 66 0) today (σ 8 0 10) + k) = verb ∧ Hd (σ 75 0) (σ 71 0) (σ 72 0) (σ 73 0) (σ 74 0) (12 * tforce (σ 66 0) today (σ 8 0 10) + k) (σ 70 0 (12 * tforce (σ 66 0) today (σ 8 0 10) + k))) (fun k => σ 69 0 (12 * tforce (σ 66 0) today (σ 8 0 10) + k)) (dflt verb) r
theorem sx_numberOn {σ : St} {today verb : Int} {Q : Int → St → Prop} (h : LawX (σ 8 0 10) (σ 66 0) (σ 67 0) (σ 68 0) (σ 69 0) (σ 70 0) (σ 71 0) (σ 72 0) (σ 73 0) (σ 74 0)) (ht : inR today) (hd : 1 ≤ verb ∧ verb ≤ 3) (hF : ∀ i, i < 13 → inR (σ 75 0 i)) (q : ∀ r, NumX σ today verb r → Q r σ) : wp_X8_numberOn σ today verb Q := by
  obtain ⟨h1, h2⟩ := h
  have lb := lat_b (σ 66 0) today (σ 8 0 10).toNat
  unfold wp_X8_numberOn wp_X8_numberOn_21
  refine sx_textOn h1.1 h1.2 (fun i hi => ⟨by have := (h2 i hi).1; omega, by have := (h2 i hi).1; omega⟩) ht ?_
  unfold NumX tmany tforce at q
  refine ⟨⟨by omega, by omega⟩, fun c => ?_, fun c => ?_⟩
  · rw [if_neg c] at q
    obtain ⟨g1, g2⟩ := h2 (lat (σ 66 0) today (σ 8 0 10).toNat).toNat (by omega)
    refine ⟨by omega, by omega, fun v9 e9 => ⟨13, ?_⟩⟩
    have e := num_loop (t := (lat (σ 66 0) today (σ 8 0 10).toNat).toNat) (m := σ 67 0 (lat (σ 66 0) today (σ 8 0 10).toNat).toNat) (by omega) (by omega) g2 hd hF q (σ 67 0 (lat (σ 66 0) today (σ 8 0 10).toNat).toNat).toNat 13 (by omega) (by omega) (fun k' hk hk2 => absurd hk (by omega))
    rw [show (((lat (σ 66 0) today (σ 8 0 10).toNat).toNat : Nat) : Int) = lat (σ 66 0) today (σ 8 0 10).toNat by omega, show (((σ 67 0 (lat (σ 66 0) today (σ 8 0 10).toNat).toNat).toNat : Nat) : Int) - 1 = v9 by omega] at e
    exact e
  · rw [if_pos c] at q
    intro v9 e9
    have e := num_loop (t := 0) (m := 0) (by omega) (by omega) (fun k hk => absurd hk (by omega)) hd hF (fun r hr => q r (by
      rcases hr with hr | ⟨k, -, hk, -⟩
      · exact Or.inl ⟨hr.1, fun k hk => absurd hk (by omega)⟩
      · exact absurd hk (by omega))) 0 1 (by omega) (by omega) (fun k' hk hk2 => absurd hk2 (by omega))
    refine ⟨1, ?_⟩
    unfold wp_X8_numberOn_29 at e ⊢
    exact ⟨⟨by omega, by omega⟩, fun _ => e.2.1 (by omega), fun z => absurd (by omega) z⟩
theorem numm_loop {σ : St} {t : Nat} {so d : Int} {Q : Int → St → Prop} (ht : t < 20) (hm : 0 ≤ σ 110 0 t ∧ σ 110 0 t ≤ 12) (hr : ∀ k : Nat, (k : Int) < σ 110 0 t → (0 ≤ σ 111 0 (12 * t + k) ∧ σ 111 0 (12 * t + k) ≤ 5) ∧ TmR (σ 114 0) (σ 115 0) (σ 116 0) (σ 117 0) (12 * t + k) (σ 113 0 (12 * t + k))) (hd : inR so) (hF : ∀ i, i < 13 → inR (σ 119 0 i))
    (q : ∀ r, lastv (σ 110 0 t) (fun k => σ 111 0 (12 * t + k) = so ∧ Hd (σ 119 0) (σ 114 0) (σ 115 0) (σ 116 0) (σ 117 0) (12 * t + k) (σ 113 0 (12 * t + k))) (fun k => σ 112 0 (12 * t + k)) d r → Q r σ) :
    ∀ (k i n : Nat) (v : Int), (i : Int) + k = σ 110 0 t → k < n → lastv (i : Int) (fun k => σ 111 0 (12 * t + k) = so ∧ Hd (σ 119 0) (σ 114 0) (σ 115 0) (σ 116 0) (σ 117 0) (12 * t + k) (σ 113 0 (12 * t + k))) (fun k => σ 112 0 (12 * t + k)) d v → wp_X12_lastOf_29 Q n σ so v t i := by
  intro k
  induction k with
  | zero =>
    intro i n v hi hn hf
    obtain ⟨n, rfl⟩ : ∃ n', n = n' + 1 := ⟨n - 1, by omega⟩
    unfold wp_X12_lastOf_29
    rw [Int.toNat_natCast]
    rw [show (i : Int) = σ 110 0 t by omega] at hf
    exact ⟨⟨by omega, by omega⟩, fun z => absurd z (by omega), fun _ => ⟨by omega, by omega, ⟨by omega, by omega⟩, ⟨by omega, by omega⟩, fun _ => q _ hf, fun h => absurd (by omega) h⟩⟩
  | succ k ih =>
    intro i n v hi hn hf
    obtain ⟨n, rfl⟩ : ∃ n', n = n' + 1 := ⟨n - 1, by omega⟩
    obtain ⟨r1, r2⟩ := hr i (by omega)
    have nx : ∀ w, ¬ (σ 111 0 (12 * t + i) = so ∧ Hd (σ 119 0) (σ 114 0) (σ 115 0) (σ 116 0) (σ 117 0) (12 * t + i) (σ 113 0 (12 * t + i))) ∧ w = v ∨ (σ 111 0 (12 * t + i) = so ∧ Hd (σ 119 0) (σ 114 0) (σ 115 0) (σ 116 0) (σ 117 0) (12 * t + i) (σ 113 0 (12 * t + i))) ∧ w = σ 112 0 (12 * t + i) → wp_X12_lastOf_88 (fun σ x1 x2 x3 x4 => wp_X12_lastOf_29 Q n σ x1 x2 x3 x4) Q σ so w t i := by
      intro w hw
      unfold wp_X12_lastOf_88
      rw [show ((i : Int) + 1) = ((i + 1 : Nat) : Int) by omega]
      refine ih (i + 1) n w (by omega) (by omega) ?_
      rcases hw with ⟨hno, rfl⟩ | ⟨hy, rfl⟩
      · rcases hf with ⟨a1, a2⟩ | ⟨k9, a1, a2, a3, a4⟩
        · refine Or.inl ⟨a1, fun k' hk => ?_⟩
          by_cases e : k' = i
          · rw [e]
            exact hno
          · exact a2 k' (by omega)
        · refine Or.inr ⟨k9, a1, by omega, a3, fun k' hk hk2 => ?_⟩
          by_cases e : k' = i
          · rw [e]
            exact hno
          · exact a4 k' hk (by omega)
      · exact Or.inr ⟨i, rfl, by omega, hy, fun k' hk hk2 => absurd hk2 (by omega)⟩
    unfold wp_X12_lastOf_29
    rw [Int.toNat_natCast, show Int.toNat (12 * (t : Int) + (i : Int)) = 12 * t + i by omega]
    refine ⟨⟨by omega, by omega⟩, fun z => absurd z (by omega), fun _ => ⟨by omega, by omega, ⟨by omega, by omega⟩, ⟨by omega, by omega⟩, fun h => absurd h (by omega), fun _ => ⟨by omega, by omega, ⟨by omega, by omega⟩, hd, fun c => nx _ (Or.inl ⟨fun h => c h.1, rfl⟩), fun c => sm_holds (s := 12 * t + i) (by omega) (by omega) r2 hF (fun hh => ⟨⟨by decide, by decide⟩, fun z => absurd z (by decide), fun _ => ⟨by omega, by omega, fun v9 e9 => nx _ (Or.inr ⟨⟨c, hh⟩, e9⟩)⟩⟩) (fun hh => ⟨⟨by decide, by decide⟩, fun _ => nx _ (Or.inl ⟨fun h => hh h.2, rfl⟩), fun z => absurd rfl z⟩)⟩⟩⟩
def NumM (σ : St) (so r : Int) : Prop := lastv (tmany (σ 109 0) (σ 110 0) (σ 12 0 1) (σ 12 0 33)) (fun k => σ 111 0 (12 * tforce (σ 109 0) (σ 12 0 1) (σ 12 0 33) + k) = so ∧ Hd (σ 119 0) (σ 114 0) (σ 115 0) (σ 116 0) (σ 117 0) (12 * tforce (σ 109 0) (σ 12 0 1) (σ 12 0 33) + k) (σ 113 0 (12 * tforce (σ 109 0) (σ 12 0 1) (σ 12 0 33) + k))) (fun k => σ 112 0 (12 * tforce (σ 109 0) (σ 12 0 1) (σ 12 0 33) + k)) (dflt (so - 2)) r
theorem sm_lastOf {σ : St} {so : Int} {Q : Int → St → Prop} (h : LawR (σ 12 0 33) (σ 109 0) (σ 110 0) (σ 111 0) (σ 112 0) (σ 113 0) (σ 114 0) (σ 115 0) (σ 116 0) (σ 117 0)) (ht : inR (σ 12 0 1)) (hd : 3 ≤ so ∧ so ≤ 5) (hF : ∀ i, i < 13 → inR (σ 119 0 i)) (q : ∀ r, NumM σ so r → Q r σ) : wp_X12_lastOf σ so Q := by
  obtain ⟨h1, h2⟩ := h
  have lb := lat_b (σ 109 0) (σ 12 0 1) (σ 12 0 33).toNat
  have key : wp_X12_lastOf_20 Q σ so (dflt (so - 2)) := by
    unfold wp_X12_lastOf_20
    refine sm_inForce h1.1 h1.2 (fun i hi => ⟨by have := (h2 i hi).1; omega, by have := (h2 i hi).1; omega⟩) ht ?_
    unfold NumM tmany tforce at q
    by_cases c : lat (σ 109 0) (σ 12 0 1) (σ 12 0 33).toNat = -1
    · rw [if_pos c] at q
      refine ⟨1, ?_⟩
      unfold wp_X12_lastOf_29
      exact ⟨⟨by omega, by omega⟩, fun _ => q _ (Or.inl ⟨rfl, fun k' hk => absurd hk (by omega)⟩), fun z => absurd c z⟩
    · rw [if_neg c] at q
      obtain ⟨g1, g2⟩ := h2 (lat (σ 109 0) (σ 12 0 1) (σ 12 0 33).toNat).toNat (by omega)
      refine ⟨13, ?_⟩
      have e := numm_loop (t := (lat (σ 109 0) (σ 12 0 1) (σ 12 0 33).toNat).toNat) (so := so) (d := dflt (so - 2)) (by omega) (by omega) g2 ⟨by omega, by omega⟩ hF q (σ 110 0 (lat (σ 109 0) (σ 12 0 1) (σ 12 0 33).toNat).toNat).toNat 0 13 (dflt (so - 2)) (by omega) (by omega) (Or.inl ⟨rfl, fun k' hk => absurd hk (by omega)⟩)
      rw [show (((lat (σ 109 0) (σ 12 0 1) (σ 12 0 33).toNat).toNat : Nat) : Int) = lat (σ 109 0) (σ 12 0 1) (σ 12 0 33).toNat by omega] at e
      exact e
  unfold wp_X12_lastOf
  unfold dflt at key
  refine ⟨⟨by omega, by omega⟩, fun c => ⟨⟨by omega, by omega⟩, fun d => ?_, fun d => ?_⟩, fun c => ?_⟩
  · rw [if_neg (by omega), if_neg (by omega)] at key
    exact key
  · rw [if_neg (by omega), if_pos (by omega)] at key
    exact key
  · rw [if_pos (by omega)] at key
    exact key
