/-! what the law in force says of what is asked -/
def first (n : Int) (M : Nat → Prop) (r : Int) : Prop := (r = -1 ∧ ∀ k : Nat, (k : Int) < n → ¬ M k) ∨ ∃ k : Nat, r = k ∧ (k : Int) < n ∧ M k ∧ ∀ k' : Nat, k' < k → ¬ M k'
theorem first_uni {n r r' : Int} {M M' : Nat → Prop} (h : first n M r) (h' : first n M' r') (e : ∀ k : Nat, (k : Int) < n → (M k ↔ M' k)) : r' = r := by
  rcases h with ⟨a1, a2⟩ | ⟨k, a1, a2, a3, a4⟩ <;> rcases h' with ⟨b1, b2⟩ | ⟨k', b1, b2, b3, b4⟩
  · omega
  · exact absurd ((e k' b2).mpr b3) (a2 k' b2)
  · exact absurd ((e k a2).mp a3) (b2 k a2)
  · rcases Nat.lt_trichotomy k k' with c | c | c
    · exact absurd ((e k a2).mp a3) (b4 k c)
    · omega
    · exact absurd ((e k' b2).mpr b3) (a4 k' c)
def lastv (n : Int) (M : Nat → Prop) (val : Nat → Int) (d r : Int) : Prop := (r = d ∧ ∀ k : Nat, (k : Int) < n → ¬ M k) ∨ ∃ k : Nat, r = val k ∧ (k : Int) < n ∧ M k ∧ ∀ k' : Nat, k < k' → (k' : Int) < n → ¬ M k'
theorem lastv_uni {n d r r' : Int} {M M' : Nat → Prop} {v v' : Nat → Int} (h : lastv n M v d r) (h' : lastv n M' v' d r') (e : ∀ k : Nat, (k : Int) < n → (M k ↔ M' k)) (ev : ∀ k : Nat, (k : Int) < n → M k → v' k = v k) : r' = r := by
  rcases h with ⟨a1, a2⟩ | ⟨k, a1, a2, a3, a4⟩ <;> rcases h' with ⟨b1, b2⟩ | ⟨k', b1, b2, b3, b4⟩
  · omega
  · exact absurd ((e k' b2).mpr b3) (a2 k' b2)
  · exact absurd ((e k a2).mp a3) (b2 k a2)
  · rcases Nat.lt_trichotomy k k' with c | c | c
    · exact absurd ((e k' b2).mpr b3) (a4 k' c b2)
    · subst c
      rw [b1, a1, ev k a2 a3]
    · exact absurd ((e k a2).mp a3) (b4 k c a2)
def tmv (v r o : Int) : Int := if r = 0 then (if v < o then 1 else 0) else if r = 1 then (if v = o then 1 else 0) else if o < v then 1 else 0
theorem tmv_b {v r o : Int} : 0 ≤ tmv v r o ∧ tmv v r o ≤ 1 := by
  unfold tmv
  split
  · split <;> omega
  · split
    · split <;> omega
    · split <;> omega
def Hd (F ng wd rl vl : Nat → Int) (s : Nat) (m : Int) : Prop := ∀ q : Nat, (q : Int) < m → ¬ tmv (F (wd (5 * s + q)).toNat) (rl (5 * s + q)) (vl (5 * s + q)) = ng (5 * s + q)
/-- numbers of a statement's terms -/
def TmR (ng wd rl vl : Nat → Int) (s : Nat) (m : Int) : Prop := (0 ≤ m ∧ m ≤ 5) ∧ ∀ q : Nat, (q : Int) < m → (0 ≤ ng (5 * s + q) ∧ ng (5 * s + q) ≤ 1) ∧ (0 ≤ wd (5 * s + q) ∧ wd (5 * s + q) ≤ 12) ∧ (0 ≤ rl (5 * s + q) ∧ rl (5 * s + q) ≤ 2) ∧ 0 ≤ vl (5 * s + q) ∧ vl (5 * s + q) ≤ 9999
theorem sx_compares {σ : St} {a r b : Int} {Q : Int → St → Prop} (ha : inR a) (hb : inR b) (hr : 0 ≤ r ∧ r ≤ 2) (q : Q (tmv a r b) σ) : wp_X8_compares σ a r b Q := by
  unfold tmv at q
  refine ⟨⟨by omega, by omega⟩, fun c => ⟨ha, hb, fun d => ?_, fun d => ?_⟩, fun c => ⟨ha, hb, fun d => ?_, fun d => ?_⟩, fun c => ⟨ha, hb, fun d => ?_, fun d => ?_⟩⟩
  · rw [if_pos c, if_neg (by omega)] at q
    exact q
  · rw [if_pos c, if_pos (by omega)] at q
    exact q
  · rw [if_neg (by omega), if_pos c, if_neg d] at q
    exact q
  · rw [if_neg (by omega), if_pos c, if_pos d] at q
    exact q
  · rw [if_neg c.1, if_neg c.2, if_neg (by omega)] at q
    exact q
  · rw [if_neg c.1, if_neg c.2, if_pos (by omega)] at q
    exact q
theorem hold_loop {σ : St} {s : Nat} {Q : Int → St → Prop} (hs : s < 240) (hr : TmR (σ 71 0) (σ 72 0) (σ 73 0) (σ 74 0) s (σ 70 0 s)) (hF : ∀ i, i < 13 → inR (σ 75 0 i)) (q1 : Hd (σ 75 0) (σ 71 0) (σ 72 0) (σ 73 0) (σ 74 0) s (σ 70 0 s) → Q 1 σ) (q0 : ¬ Hd (σ 75 0) (σ 71 0) (σ 72 0) (σ 73 0) (σ 74 0) s (σ 70 0 s) → Q 0 σ) :
    ∀ (k i n : Nat), (i : Int) + k = σ 70 0 s → k < n → Hd (σ 75 0) (σ 71 0) (σ 72 0) (σ 73 0) (σ 74 0) s i → wp_X8_holds_2 Q n σ s i := by
  obtain ⟨hm, hr⟩ := hr
  intro k
  induction k with
  | zero =>
    intro i n hi hn hf
    obtain ⟨n, rfl⟩ : ∃ n', n = n' + 1 := ⟨n - 1, by omega⟩
    unfold wp_X8_holds_2
    rw [Int.toNat_natCast]
    refine ⟨by omega, by omega, ⟨by omega, by omega⟩, ⟨by omega, by omega⟩, fun _ => q1 ?_, fun h => absurd (by omega) h⟩
    rw [show σ 70 0 s = (i : Int) by omega]
    exact hf
  | succ k ih =>
    intro i n hi hn hf
    obtain ⟨n, rfl⟩ : ∃ n', n = n' + 1 := ⟨n - 1, by omega⟩
    obtain ⟨r1, r2, r3, r4⟩ := hr i (by omega)
    unfold wp_X8_holds_2 wp_X8_termHolds
    rw [Int.toNat_natCast, show Int.toNat ((s : Int) * 5 + (i : Int)) = 5 * s + i by omega, show ((i : Int) + 1) = ((i + 1 : Nat) : Int) by omega]
    refine ⟨by omega, by omega, ⟨by omega, by omega⟩, ⟨by omega, by omega⟩, fun h => absurd h (by omega), fun _ => ⟨by omega, by omega, by omega, by omega, by omega, by omega, by omega, by omega, sx_compares (hF _ (by omega)) ⟨by omega, by omega⟩ r3 ⟨by omega, by omega, ?_, ⟨by omega, by omega⟩, fun c => ⟨⟨by decide, by decide⟩, fun d => absurd rfl d, fun _ => q0 ?_⟩, fun c => ⟨⟨by decide, by decide⟩, fun _ => ?_, fun d => absurd d (by decide)⟩⟩⟩⟩
    · exact ⟨by have := tmv_b (v := σ 75 0 (σ 72 0 (5 * s + i)).toNat) (r := σ 73 0 (5 * s + i)) (o := σ 74 0 (5 * s + i)); omega, by have := tmv_b (v := σ 75 0 (σ 72 0 (5 * s + i)).toNat) (r := σ 73 0 (5 * s + i)) (o := σ 74 0 (5 * s + i)); omega⟩
    · exact fun h => h i (by omega) c
    · refine ih (i + 1) n (by omega) (by omega) (fun q9 hq => ?_)
      by_cases e : q9 = i
      · rw [e]
        exact c
      · exact hf q9 (by omega)
theorem sx_holds {σ : St} {s : Nat} {x : Int} {Q : Int → St → Prop} (hx : x = (s : Int)) (hs : s < 240) (hr : TmR (σ 71 0) (σ 72 0) (σ 73 0) (σ 74 0) s (σ 70 0 s)) (hF : ∀ i, i < 13 → inR (σ 75 0 i)) (q1 : Hd (σ 75 0) (σ 71 0) (σ 72 0) (σ 73 0) (σ 74 0) s (σ 70 0 s) → Q 1 σ) (q0 : ¬ Hd (σ 75 0) (σ 71 0) (σ 72 0) (σ 73 0) (σ 74 0) s (σ 70 0 s) → Q 0 σ) : wp_X8_holds σ x Q := by
  rw [hx]
  exact ⟨6, hold_loop hs hr hF q1 q0 (σ 70 0 s).toNat 0 6 (by have := hr.1; omega) (by have := hr.1; omega) (fun q hq => absurd hq (by omega))⟩
theorem holm_loop {σ : St} {s : Nat} {Q : Int → St → Prop} (hs : s < 252) (hr : TmR (σ 114 0) (σ 115 0) (σ 116 0) (σ 117 0) s (σ 113 0 s)) (hF : ∀ i, i < 13 → inR (σ 119 0 i)) (q1 : Hd (σ 119 0) (σ 114 0) (σ 115 0) (σ 116 0) (σ 117 0) s (σ 113 0 s) → Q 1 σ) (q0 : ¬ Hd (σ 119 0) (σ 114 0) (σ 115 0) (σ 116 0) (σ 117 0) s (σ 113 0 s) → Q 0 σ) :
    ∀ (k i n : Nat), (i : Int) + k = σ 113 0 s → k < n → Hd (σ 119 0) (σ 114 0) (σ 115 0) (σ 116 0) (σ 117 0) s i → wp_X12_holds_4 Q n σ s ((5 * s + i : Nat) : Int) := by
  obtain ⟨hm, hr⟩ := hr
  intro k
  induction k with
  | zero =>
    intro i n hi hn hf
    obtain ⟨n, rfl⟩ : ∃ n', n = n' + 1 := ⟨n - 1, by omega⟩
    unfold wp_X12_holds_4
    rw [Int.toNat_natCast]
    refine ⟨by omega, by omega, ⟨by omega, by omega⟩, ⟨by omega, by omega⟩, fun _ => q1 ?_, fun h => absurd (by omega) h⟩
    rw [show σ 113 0 s = (i : Int) by omega]
    exact hf
  | succ k ih =>
    intro i n hi hn hf
    obtain ⟨n, rfl⟩ : ∃ n', n = n' + 1 := ⟨n - 1, by omega⟩
    obtain ⟨r1, r2, r3, r4⟩ := hr i (by omega)
    have key : ∀ y : Int, y = tmv (σ 119 0 (σ 115 0 (5 * s + i)).toNat) (σ 116 0 (5 * s + i)) (σ 117 0 (5 * s + i)) → wp_X12_holds_100 (fun σ x1 x2 => wp_X12_holds_4 Q n σ x1 x2) Q σ s ((5 * s + i : Nat) : Int) y := by
      intro y hy
      have tb := tmv_b (v := σ 119 0 (σ 115 0 (5 * s + i)).toNat) (r := σ 116 0 (5 * s + i)) (o := σ 117 0 (5 * s + i))
      unfold wp_X12_holds_100
      rw [Int.toNat_natCast, show (((5 * s + i : Nat) : Int) + 1) = ((5 * s + (i + 1) : Nat) : Int) by omega]
      refine ⟨by omega, by omega, ⟨by omega, by omega⟩, ⟨by omega, by omega⟩, fun c => ?_, fun c => q0 (fun h => h i (by omega) (by omega))⟩
      refine ih (i + 1) n (by omega) (by omega) (fun q9 hq => ?_)
      by_cases e : q9 = i
      · rw [e, ← hy]
        exact c
      · exact hf q9 (by omega)
    have hv := hF (σ 115 0 (5 * s + i)).toNat (by omega)
    have hw : inR (σ 117 0 (5 * s + i)) := ⟨by omega, by omega⟩
    have hq : inR (σ 116 0 (5 * s + i)) := ⟨by omega, by omega⟩
    unfold wp_X12_holds_4
    rw [Int.toNat_natCast, Int.toNat_natCast]
    refine ⟨by omega, by omega, ⟨by omega, by omega⟩, ⟨by omega, by omega⟩, fun h => absurd h (by omega), fun _ => ⟨by omega, by omega, by omega, by omega, fun v9 e9 => ?_⟩⟩
    rw [e9]
    refine ⟨by omega, by omega, hq, fun c => ⟨by omega, by omega, hq, fun d => ⟨by omega, by omega, hv, hw, fun z => key _ ?_, fun z => key _ ?_⟩, fun d => ⟨by omega, by omega, hv, hw, fun z => key _ ?_, fun z => key _ ?_⟩⟩, fun c => ⟨by omega, by omega, hv, hw, fun z => key _ ?_, fun z => key _ ?_⟩⟩
    · unfold tmv
      rw [if_neg c, if_neg d, if_neg (by omega)]
    · unfold tmv
      rw [if_neg c, if_neg d, if_pos (by omega)]
    · unfold tmv
      rw [if_neg c, if_pos d, if_neg z]
    · unfold tmv
      rw [if_neg c, if_pos d, if_pos z]
    · unfold tmv
      rw [if_pos c, if_neg (by omega)]
    · unfold tmv
      rw [if_pos c, if_pos (by omega)]
theorem sm_holds {σ : St} {s : Nat} {x : Int} {Q : Int → St → Prop} (hx : x = (s : Int)) (hs : s < 252) (hr : TmR (σ 114 0) (σ 115 0) (σ 116 0) (σ 117 0) s (σ 113 0 s)) (hF : ∀ i, i < 13 → inR (σ 119 0 i)) (q1 : Hd (σ 119 0) (σ 114 0) (σ 115 0) (σ 116 0) (σ 117 0) s (σ 113 0 s) → Q 1 σ) (q0 : ¬ Hd (σ 119 0) (σ 114 0) (σ 115 0) (σ 116 0) (σ 117 0) s (σ 113 0 s) → Q 0 σ) : wp_X12_holds σ x Q := by
  intro v e
  rw [e, hx, show 5 * (s : Int) = ((5 * s + 0 : Nat) : Int) by omega]
  exact ⟨6, holm_loop hs hr hF q1 q0 (σ 113 0 s).toNat 0 6 (by have := hr.1; omega) (by have := hr.1; omega) (fun q hq => absurd hq (by omega))⟩
theorem text_loop {σ : St} {x1 : Int} {Q : Int → St → Prop} (hm2 : σ 8 0 10 ≤ 20) (hd : ∀ i : Nat, (i : Int) < σ 8 0 10 → inR (σ 66 0 i)) (hx : inR (x1)) (q : Q (lat (σ 66 0) (x1) (σ 8 0 10).toNat) σ) : ∀ (k i n : Nat), k < n → (i : Int) + k = σ 8 0 10 → wp_X8_textOn_4 Q n σ x1 (lat (σ 66 0) (x1) i) i := by
  intro k
  induction k with
  | zero =>
    intro i n hn hi
    obtain ⟨n, rfl⟩ : ∃ n', n = n' + 1 := ⟨n - 1, by omega⟩
    unfold wp_X8_textOn_4
    refine ⟨⟨by omega, by omega⟩, ⟨by omega, by omega⟩, fun _ => ?_, fun h => absurd (by omega) h⟩
    rw [show (σ 8 0 10).toNat = i by omega] at q
    exact q
  | succ k ih =>
    intro i n hn hi
    obtain ⟨n, rfl⟩ : ∃ n', n = n' + 1 := ⟨n - 1, by omega⟩
    have hb := lat_b (σ 66 0) (x1) i
    have nx := ih (i + 1) n (by omega) (by omega)
    unfold wp_X8_textOn_4
    unfold wp_X8_textOn_42 wp_X8_textOn_44
    refine ⟨⟨by omega, by omega⟩, ⟨by omega, by omega⟩, fun h => absurd h (by omega), fun _ => ⟨by omega, by omega, hd _ (by omega), hx, fun h => ?_, fun h => ⟨⟨by omega, by omega⟩, fun h2 => ?_, fun h2 => ⟨by omega, by omega, by omega, by omega, hd _ (by omega), hd _ (by omega), fun h3 => ?_, fun h3 => ?_⟩⟩⟩⟩
    all_goals
      rw [show ((i : Int) + 1) = ((i + 1 : Nat) : Int) by omega]
      have e : (Int.toNat (i : Int)) = i := by omega
      rw [e] at h
    · rw [show lat (σ 66 0) (x1) (i + 1) = lat (σ 66 0) (x1) i by
        show (if _ then _ else _) = _
        rw [if_neg (by omega)]] at nx
      exact nx
    · rw [show lat (σ 66 0) (x1) (i + 1) = (i : Int) by
        show (if _ then _ else _) = _
        rw [if_pos ⟨by omega, Or.inl h2⟩]] at nx
      exact nx
    · rw [e] at h3
      rw [show lat (σ 66 0) (x1) (i + 1) = lat (σ 66 0) (x1) i by
        show (if _ then _ else _) = _
        rw [if_neg (by omega)]] at nx
      exact nx
    · rw [e] at h3
      rw [show lat (σ 66 0) (x1) (i + 1) = (i : Int) by
        show (if _ then _ else _) = _
        rw [if_pos ⟨by omega, Or.inr (by omega)⟩]] at nx
      exact nx
theorem infor_loop {σ : St} {Q : Int → St → Prop} (hm2 : σ 12 0 33 ≤ 20) (hd : ∀ i : Nat, (i : Int) < σ 12 0 33 → inR (σ 109 0 i)) (hx : inR (σ 12 0 1)) (q : Q (lat (σ 109 0) (σ 12 0 1) (σ 12 0 33).toNat) σ) : ∀ (k i n : Nat), k < n → (i : Int) + k = σ 12 0 33 → wp_X12_inForce_4 Q n σ (lat (σ 109 0) (σ 12 0 1) i) i := by
  intro k
  induction k with
  | zero =>
    intro i n hn hi
    obtain ⟨n, rfl⟩ : ∃ n', n = n' + 1 := ⟨n - 1, by omega⟩
    unfold wp_X12_inForce_4
    refine ⟨⟨by omega, by omega⟩, ⟨by omega, by omega⟩, fun _ => ?_, fun h => absurd (by omega) h⟩
    rw [show (σ 12 0 33).toNat = i by omega] at q
    exact q
  | succ k ih =>
    intro i n hn hi
    obtain ⟨n, rfl⟩ : ∃ n', n = n' + 1 := ⟨n - 1, by omega⟩
    have hb := lat_b (σ 109 0) (σ 12 0 1) i
    have nx := ih (i + 1) n (by omega) (by omega)
    unfold wp_X12_inForce_4
    unfold wp_X12_inForce_45 wp_X12_inForce_47
    refine ⟨⟨by omega, by omega⟩, ⟨by omega, by omega⟩, fun h => absurd h (by omega), fun _ => ⟨by omega, by omega, hd _ (by omega), hx, fun h => ?_, fun h => ⟨⟨by omega, by omega⟩, fun h2 => ?_, fun h2 => ⟨by omega, by omega, by omega, by omega, hd _ (by omega), hd _ (by omega), fun h3 => ?_, fun h3 => ?_⟩⟩⟩⟩
    all_goals
      rw [show ((i : Int) + 1) = ((i + 1 : Nat) : Int) by omega]
      have e : (Int.toNat (i : Int)) = i := by omega
      rw [e] at h
    · rw [show lat (σ 109 0) (σ 12 0 1) (i + 1) = lat (σ 109 0) (σ 12 0 1) i by
        show (if _ then _ else _) = _
        rw [if_neg (by omega)]] at nx
      exact nx
    · rw [show lat (σ 109 0) (σ 12 0 1) (i + 1) = (i : Int) by
        show (if _ then _ else _) = _
        rw [if_pos ⟨by omega, Or.inl h2⟩]] at nx
      exact nx
    · rw [e] at h3
      rw [show lat (σ 109 0) (σ 12 0 1) (i + 1) = lat (σ 109 0) (σ 12 0 1) i by
        show (if _ then _ else _) = _
        rw [if_neg (by omega)]] at nx
      exact nx
    · rw [e] at h3
      rw [show lat (σ 109 0) (σ 12 0 1) (i + 1) = (i : Int) by
        show (if _ then _ else _) = _
        rw [if_pos ⟨by omega, Or.inr (by omega)⟩]] at nx
      exact nx
theorem sx_textOn {σ : St} {x1 : Int} {Q : Int → St → Prop} (hm : 0 ≤ σ 8 0 10) (hm2 : σ 8 0 10 ≤ 20) (hd : ∀ i : Nat, (i : Int) < σ 8 0 10 → inR (σ 66 0 i)) (hx : inR x1) (q : Q (lat (σ 66 0) x1 (σ 8 0 10).toNat) σ) : wp_X8_textOn σ x1 Q :=
  ⟨21, text_loop hm2 hd hx q (σ 8 0 10).toNat 0 21 (by omega) (by omega)⟩
theorem sm_inForce {σ : St} {Q : Int → St → Prop} (hm : 0 ≤ σ 12 0 33) (hm2 : σ 12 0 33 ≤ 20) (hd : ∀ i : Nat, (i : Int) < σ 12 0 33 → inR (σ 109 0 i)) (hx : inR (σ 12 0 1)) (q : Q (lat (σ 109 0) (σ 12 0 1) (σ 12 0 33).toNat) σ) : wp_X12_inForce σ Q :=
  ⟨21, infor_loop hm2 hd hx q (σ 12 0 33).toNat 0 21 (by omega) (by omega)⟩
/-- the class's rows of law are in their ranges -/
def LawX (tx : Int) (bg ln vb ob tm ng wd rl vl : Nat → Int) : Prop := (0 ≤ tx ∧ tx ≤ 20) ∧ ∀ t : Nat, (t : Int) < tx → (0 ≤ bg t ∧ bg t ≤ 3999 ∧ 0 ≤ ln t ∧ ln t ≤ 12) ∧ ∀ k : Nat, (k : Int) < ln t → (0 ≤ vb (12 * t + k) ∧ vb (12 * t + k) ≤ 3 ∧ 0 ≤ ob (12 * t + k) ∧ ob (12 * t + k) ≤ 9999) ∧ TmR ng wd rl vl (12 * t + k) (tm (12 * t + k))
/-- and the reference's -/
def LawR (tx : Int) (bg ln so no tm ng wd rl vl : Nat → Int) : Prop := (0 ≤ tx ∧ tx ≤ 20) ∧ ∀ t : Nat, (t : Int) < tx → (0 ≤ bg t ∧ bg t ≤ 3999 ∧ 0 ≤ ln t ∧ ln t ≤ 12) ∧ ∀ k : Nat, (k : Int) < ln t → (0 ≤ so (12 * t + k) ∧ so (12 * t + k) ≤ 5) ∧ TmR ng wd rl vl (12 * t + k) (tm (12 * t + k))
theorem LawX.of {tx tx2 : Int} {bg ln vb ob tm ng wd rl vl bg2 ln2 so no tm2 ng2 wd2 rl2 vl2 : Nat → Int} (h : I_law tx tx2 bg ln vb ob tm ng wd rl vl bg2 ln2 so no tm2 ng2 wd2 rl2 vl2) : LawX tx bg ln vb ob tm ng wd rl vl := by
  obtain ⟨h1, h2⟩ := h
  refine ⟨by omega, fun t ht => ?_⟩
  obtain ⟨g1, g2⟩ := h2 t ht
  refine ⟨by omega, fun k hk => ?_⟩
  obtain ⟨⟨s1, s2, s3, s4⟩, s5⟩ := g2 k hk
  refine ⟨?_, by omega, fun q hq => ?_⟩
  · rcases s1 with s | s <;> omega
  · obtain ⟨-, u⟩ := s5 q hq
    exact ⟨by omega, by omega, by omega, by omega, by omega⟩
theorem LawR.of {tx tx2 : Int} {bg ln vb ob tm ng wd rl vl bg2 ln2 so no tm2 ng2 wd2 rl2 vl2 : Nat → Int} (h : I_law tx tx2 bg ln vb ob tm ng wd rl vl bg2 ln2 so no tm2 ng2 wd2 rl2 vl2) : LawR tx2 bg2 ln2 so no tm2 ng2 wd2 rl2 vl2 := by
  obtain ⟨h1, h2⟩ := h
  refine ⟨by omega, fun t ht => ?_⟩
  obtain ⟨g1, g2⟩ := h2 t (by omega)
  refine ⟨by omega, fun k hk => ?_⟩
  obtain ⟨⟨s1, s2, s3, s4⟩, s5⟩ := g2 k (by omega)
  refine ⟨?_, by omega, fun q hq => ?_⟩
  · rcases s1 with s | s <;> omega
  · obtain ⟨⟨u1, u2, u3, u4⟩, u⟩ := s5 q (by omega)
    exact ⟨by omega, by omega, by omega, by omega, by omega⟩
/-- the text in force, how many statements it has -/
def tforce (bg : Nat → Int) (today tx : Int) : Nat := (lat bg today tx.toNat).toNat
def tmany (bg ln : Nat → Int) (today tx : Int) : Int := if lat bg today tx.toNat = -1 then 0 else ln (tforce bg today tx)
theorem bar_loop {σ : St} {t : Nat} {m deed : Int} {Q : Int → St → Prop} (ht : t < 20) (hm : 0 ≤ m ∧ m ≤ 12) (hr : ∀ k : Nat, (k : Int) < m → (0 ≤ σ 68 0 (12 * t + k) ∧ σ 68 0 (12 * t + k) ≤ 3 ∧ 0 ≤ σ 69 0 (12 * t + k) ∧ σ 69 0 (12 * t + k) ≤ 9999) ∧ TmR (σ 71 0) (σ 72 0) (σ 73 0) (σ 74 0) (12 * t + k) (σ 70 0 (12 * t + k))) (hd : inR deed) (hF : ∀ i, i < 13 → inR (σ 75 0 i))
    (q : ∀ r, first m (fun k => σ 68 0 (12 * t + k) = 0 ∧ σ 69 0 (12 * t + k) = deed ∧ Hd (σ 75 0) (σ 71 0) (σ 72 0) (σ 73 0) (σ 74 0) (12 * t + k) (σ 70 0 (12 * t + k))) r → Q r σ) :
    ∀ (k i n : Nat), (i : Int) + k = m → k < n → (∀ k' : Nat, k' < i → ¬ (σ 68 0 (12 * t + k') = 0 ∧ σ 69 0 (12 * t + k') = deed ∧ Hd (σ 75 0) (σ 71 0) (σ 72 0) (σ 73 0) (σ 74 0) (12 * t + k') (σ 70 0 (12 * t + k')))) → wp_X8_barring_26 Q n σ deed t m i := by
  intro k
  induction k with
  | zero =>
    intro i n hi hn hf
    obtain ⟨n, rfl⟩ : ∃ n', n = n' + 1 := ⟨n - 1, by omega⟩
    unfold wp_X8_barring_26
    exact ⟨⟨by omega, by omega⟩, ⟨by omega, by omega⟩, fun _ => q _ (Or.inl ⟨rfl, fun k' hk => hf k' (by omega)⟩), fun h => absurd (by omega) h⟩
  | succ k ih =>
    intro i n hi hn hf
    obtain ⟨n, rfl⟩ : ∃ n', n = n' + 1 := ⟨n - 1, by omega⟩
    obtain ⟨r1, r2⟩ := hr i (by omega)
    have nx : ¬ (σ 68 0 (12 * t + i) = 0 ∧ σ 69 0 (12 * t + i) = deed ∧ Hd (σ 75 0) (σ 71 0) (σ 72 0) (σ 73 0) (σ 74 0) (12 * t + i) (σ 70 0 (12 * t + i))) → wp_X8_barring_75 (fun σ x2 x3 x4 x5 => wp_X8_barring_26 Q n σ x2 x3 x4 x5) Q σ deed t m i := by
      intro hno
      unfold wp_X8_barring_75
      rw [show ((i : Int) + 1) = ((i + 1 : Nat) : Int) by omega]
      refine ih (i + 1) n (by omega) (by omega) (fun k' hk => ?_)
      by_cases e : k' = i
      · rw [e]
        exact hno
      · exact hf k' (by omega)
    unfold wp_X8_barring_26
    refine ⟨⟨by omega, by omega⟩, ⟨by omega, by omega⟩, fun h => absurd h (by omega), fun _ v9 e9 => ?_⟩
    rw [show v9 = ((12 * t + i : Nat) : Int) by omega, Int.toNat_natCast]
    refine ⟨by omega, by omega, ⟨by omega, by omega⟩, fun c => nx (fun h => c h.1), fun c => ⟨by omega, by omega, ⟨by omega, by omega⟩, hd, fun d => nx (fun h => d h.2.1), fun d => sx_holds rfl (by omega) r2 hF (fun hh => ⟨⟨by decide, by decide⟩, fun z => absurd z (by decide), fun _ => q _ (Or.inr ⟨i, rfl, by omega, ⟨c, d, hh⟩, hf⟩)⟩) (fun hh => ⟨⟨by decide, by decide⟩, fun _ => nx (fun h => hh h.2.2), fun z => absurd rfl z⟩)⟩⟩
/-- the first statement that bars, out of the class's rows -/
def BarX (σ : St) (today deed r : Int) : Prop := first (tmany (σ 66 0) (σ 67 0) today (σ 8 0 10)) (fun k => σ 68 0 (12 * tforce (σ 66 0) today (σ 8 0 10) + k) = 0 ∧ σ 69 0 (12 * tforce (σ 66 0) today (σ 8 0 10) + k) = deed ∧ Hd (σ 75 0) (σ 71 0) (σ 72 0) (σ 73 0) (σ 74 0) (12 * tforce (σ 66 0) today (σ 8 0 10) + k) (σ 70 0 (12 * tforce (σ 66 0) today (σ 8 0 10) + k))) r
theorem sx_barring {σ : St} {today deed : Int} {Q : Int → St → Prop} (h : LawX (σ 8 0 10) (σ 66 0) (σ 67 0) (σ 68 0) (σ 69 0) (σ 70 0) (σ 71 0) (σ 72 0) (σ 73 0) (σ 74 0)) (ht : inR today) (hd : inR deed) (hF : ∀ i, i < 13 → inR (σ 75 0 i)) (q : ∀ r, BarX σ today deed r → Q r σ) : wp_X8_barring σ today deed Q := by
  obtain ⟨h1, h2⟩ := h
  have lb := lat_b (σ 66 0) today (σ 8 0 10).toNat
  unfold wp_X8_barring wp_X8_barring_21
  refine sx_textOn h1.1 h1.2 (fun i hi => ⟨by have := (h2 i hi).1; omega, by have := (h2 i hi).1; omega⟩) ht ?_
  unfold BarX tmany tforce at q
  refine ⟨⟨by omega, by omega⟩, fun c => ?_, fun c => ?_⟩
  · rw [if_neg c] at q
    obtain ⟨g1, g2⟩ := h2 (lat (σ 66 0) today (σ 8 0 10).toNat).toNat (by omega)
    refine ⟨by omega, by omega, 13, ?_⟩
    have e := bar_loop (t := (lat (σ 66 0) today (σ 8 0 10).toNat).toNat) (m := σ 67 0 (lat (σ 66 0) today (σ 8 0 10).toNat).toNat) (by omega) (by omega) g2 hd hF q (σ 67 0 (lat (σ 66 0) today (σ 8 0 10).toNat).toNat).toNat 0 13 (by omega) (by omega) (fun k' hk => absurd hk (by omega))
    rw [show (((lat (σ 66 0) today (σ 8 0 10).toNat).toNat : Nat) : Int) = lat (σ 66 0) today (σ 8 0 10).toNat by omega] at e
    exact e
  · rw [if_pos c] at q
    refine ⟨1, ?_⟩
    unfold wp_X8_barring_26
    exact ⟨⟨by omega, by omega⟩, ⟨by omega, by omega⟩, fun _ => q _ (Or.inl ⟨rfl, fun k' hk => absurd hk (by omega)⟩), fun z => absurd (by omega) z⟩
theorem barm_loop {σ : St} {t : Nat} {deed : Int} {Q : Int → St → Prop} (ht : t < 20) (hm : 0 ≤ σ 110 0 t ∧ σ 110 0 t ≤ 12) (hr : ∀ k : Nat, (k : Int) < σ 110 0 t → (0 ≤ σ 111 0 (12 * t + k) ∧ σ 111 0 (12 * t + k) ≤ 5) ∧ TmR (σ 114 0) (σ 115 0) (σ 116 0) (σ 117 0) (12 * t + k) (σ 113 0 (12 * t + k))) (hd : inR deed) (hF : ∀ i, i < 13 → inR (σ 119 0 i))
    (q : ∀ r, first (σ 110 0 t) (fun k => σ 111 0 (12 * t + k) = deed ∧ Hd (σ 119 0) (σ 114 0) (σ 115 0) (σ 116 0) (σ 117 0) (12 * t + k) (σ 113 0 (12 * t + k))) r → Q r σ) :
    ∀ (k i n : Nat), (i : Int) + k = σ 110 0 t → k < n → (∀ k' : Nat, k' < i → ¬ (σ 111 0 (12 * t + k') = deed ∧ Hd (σ 119 0) (σ 114 0) (σ 115 0) (σ 116 0) (σ 117 0) (12 * t + k') (σ 113 0 (12 * t + k')))) → wp_X12_barring_7 Q n σ deed t i := by
  intro k
  induction k with
  | zero =>
    intro i n hi hn hf
    obtain ⟨n, rfl⟩ : ∃ n', n = n' + 1 := ⟨n - 1, by omega⟩
    unfold wp_X12_barring_7
    rw [Int.toNat_natCast]
    exact ⟨⟨by omega, by omega⟩, fun z => absurd z (by omega), fun _ => ⟨by omega, by omega, ⟨by omega, by omega⟩, ⟨by omega, by omega⟩, fun _ => q _ (Or.inl ⟨rfl, fun k' hk => hf k' (by omega)⟩), fun h => absurd (by omega) h⟩⟩
  | succ k ih =>
    intro i n hi hn hf
    obtain ⟨n, rfl⟩ : ∃ n', n = n' + 1 := ⟨n - 1, by omega⟩
    obtain ⟨r1, r2⟩ := hr i (by omega)
    have nx : ¬ (σ 111 0 (12 * t + i) = deed ∧ Hd (σ 119 0) (σ 114 0) (σ 115 0) (σ 116 0) (σ 117 0) (12 * t + i) (σ 113 0 (12 * t + i))) → wp_X12_barring_52 (fun σ x1 x2 x3 => wp_X12_barring_7 Q n σ x1 x2 x3) Q σ deed t i := by
      intro hno
      unfold wp_X12_barring_52
      rw [show ((i : Int) + 1) = ((i + 1 : Nat) : Int) by omega]
      refine ih (i + 1) n (by omega) (by omega) (fun k' hk => ?_)
      by_cases e : k' = i
      · rw [e]
        exact hno
      · exact hf k' (by omega)
    unfold wp_X12_barring_7
    rw [Int.toNat_natCast, show Int.toNat (12 * (t : Int) + (i : Int)) = 12 * t + i by omega]
    refine ⟨⟨by omega, by omega⟩, fun z => absurd z (by omega), fun _ => ⟨by omega, by omega, ⟨by omega, by omega⟩, ⟨by omega, by omega⟩, fun h => absurd h (by omega), fun _ => ⟨by omega, by omega, ⟨by omega, by omega⟩, hd, fun d => nx (fun h => d h.1), fun d => sm_holds (s := 12 * t + i) (by omega) (by omega) r2 hF (fun hh => ⟨⟨by decide, by decide⟩, fun z => absurd z (by decide), fun _ => q _ (Or.inr ⟨i, rfl, by omega, ⟨d, hh⟩, hf⟩)⟩) (fun hh => ⟨⟨by decide, by decide⟩, fun _ => nx (fun h => hh h.2), fun z => absurd rfl z⟩)⟩⟩⟩
/-- the first statement of a sort that holds, out of the reference's rows -/
def BarM (σ : St) (deed r : Int) : Prop := first (tmany (σ 109 0) (σ 110 0) (σ 12 0 1) (σ 12 0 33)) (fun k => σ 111 0 (12 * tforce (σ 109 0) (σ 12 0 1) (σ 12 0 33) + k) = deed ∧ Hd (σ 119 0) (σ 114 0) (σ 115 0) (σ 116 0) (σ 117 0) (12 * tforce (σ 109 0) (σ 12 0 1) (σ 12 0 33) + k) (σ 113 0 (12 * tforce (σ 109 0) (σ 12 0 1) (σ 12 0 33) + k))) r
theorem sm_barring {σ : St} {deed : Int} {Q : Int → St → Prop} (h : LawR (σ 12 0 33) (σ 109 0) (σ 110 0) (σ 111 0) (σ 112 0) (σ 113 0) (σ 114 0) (σ 115 0) (σ 116 0) (σ 117 0)) (ht : inR (σ 12 0 1)) (hd : inR deed) (hF : ∀ i, i < 13 → inR (σ 119 0 i)) (q : ∀ r, BarM σ deed r → Q r σ) : wp_X12_barring σ deed Q := by
  obtain ⟨h1, h2⟩ := h
  have lb := lat_b (σ 109 0) (σ 12 0 1) (σ 12 0 33).toNat
  unfold wp_X12_barring
  refine sm_inForce h1.1 h1.2 (fun i hi => ⟨by have := (h2 i hi).1; omega, by have := (h2 i hi).1; omega⟩) ht ?_
  unfold BarM tmany tforce at q
  by_cases c : lat (σ 109 0) (σ 12 0 1) (σ 12 0 33).toNat = -1
  · rw [if_pos c] at q
    refine ⟨1, ?_⟩
    unfold wp_X12_barring_7
    exact ⟨⟨by omega, by omega⟩, fun _ => q _ (Or.inl ⟨rfl, fun k' hk => absurd hk (by omega)⟩), fun z => absurd c z⟩
  · rw [if_neg c] at q
    obtain ⟨g1, g2⟩ := h2 (lat (σ 109 0) (σ 12 0 1) (σ 12 0 33).toNat).toNat (by omega)
    refine ⟨13, ?_⟩
    have e := barm_loop (t := (lat (σ 109 0) (σ 12 0 1) (σ 12 0 33).toNat).toNat) (by omega) (by omega) g2 hd hF q (σ 110 0 (lat (σ 109 0) (σ 12 0 1) (σ 12 0 33).toNat).toNat).toNat 0 13 (by omega) (by omega) (fun k' hk => absurd hk (by omega))
    rw [show (((lat (σ 109 0) (σ 12 0 1) (σ 12 0 33).toNat).toNat : Nat) : Int) = lat (σ 109 0) (σ 12 0 1) (σ 12 0 33).toNat by omega] at e
    exact e
