/-! fire: what it leaves of the land -/
def hv (t : Nat → Int) (c : Nat) : Nat → Nat → Int
  | 0 => t
  | m + 1 => up (hv t c m) (16 * c + m) (if 2 ≤ m % 4 then Int.tdiv (hv t c m (16 * c + m)) 2 else 0)
theorem hv_b {t : Nat → Int} {c : Nat} (h : ∀ i, 0 ≤ t i ∧ t i ≤ 200) : ∀ m i, 0 ≤ hv t c m i ∧ hv t c m i ≤ 200 := by
  intro m
  induction m with
  | zero => exact h
  | succ m ih =>
    intro i
    show 0 ≤ up (hv t c m) (16 * c + m) (if 2 ≤ m % 4 then Int.tdiv (hv t c m (16 * c + m)) 2 else 0) i ∧ up (hv t c m) (16 * c + m) (if 2 ≤ m % 4 then Int.tdiv (hv t c m (16 * c + m)) 2 else 0) i ≤ 200
    by_cases e : i = 16 * c + m
    · rw [e, up_eq]
      have b := ih (16 * c + m)
      split
      · rw [Int.tdiv_eq_ediv_of_nonneg b.1]
        omega
      · omega
    · rw [up_ne e]
      exact ih i
theorem cc_loop {S : St} {t : Nat → Int} {c r : Nat} {K : St → Int → Int → Prop} {Q : St → Prop} (hc : c < 64) (hr : r < 4) (ht : ∀ i, 0 ≤ t i ∧ t i ≤ 200) (q : K (sta S 30 0 (hv t c (4 * (r + 1)))) c r) :
    ∀ (k x n : Nat), x + k = 4 → k < n → wp_X3_clearCell_16 K Q n (sta S 30 0 (hv t c (4 * r + x))) c r x := by
  intro k
  induction k with
  | zero =>
    intro x n hx hn
    obtain ⟨n, rfl⟩ : ∃ n', n = n' + 1 := ⟨n - 1, by omega⟩
    have e : x = 4 := by omega
    subst e
    unfold wp_X3_clearCell_16
    exact ⟨⟨by decide, by decide⟩, fun _ => q, fun z => absurd (by decide) z⟩
  | succ k ih =>
    intro x n hx hn
    obtain ⟨n, rfl⟩ : ∃ n', n = n' + 1 := ⟨n - 1, by omega⟩
    have nx := ih (x + 1) n (by omega) (by omega)
    have ns : hv t c (4 * r + (x + 1)) = up (hv t c (4 * r + x)) (16 * c + (4 * r + x)) (if 2 ≤ (4 * r + x) % 4 then Int.tdiv (hv t c (4 * r + x) (16 * c + (4 * r + x))) 2 else 0) := rfl
    have hb := hv_b (c := c) ht (4 * r + x) (16 * c + (4 * r + x))
    unfold wp_X3_clearCell_16 wp_X3_stemPlace wp_X3_clearCell_53
    rw [show (c : Int) * 16 + (r : Int) * 4 + x = ((16 * c + (4 * r + x) : Nat) : Int) by omega]
    dsimp only
    rw [Int.toNat_natCast, ra_eq, show ((x : Int) + 1) = ((x + 1 : Nat) : Int) by omega]
    refine ⟨⟨by omega, by omega⟩, fun z => absurd z (by omega), fun _ => ⟨⟨by omega, by omega⟩, fun y => ⟨by omega, by omega, ⟨by omega, by omega⟩, by omega, by omega, fun s1 e1 => ?_⟩, fun y => ⟨by omega, by omega, fun s1 e1 => ?_⟩⟩⟩
    · rw [st_stae] at e1
      rw [ns, if_pos (by omega)] at nx
      rw [e1]
      exact nx
    · rw [st_stae] at e1
      rw [ns, if_neg (by omega)] at nx
      rw [e1]
      exact nx
theorem cr_loop {S : St} {t : Nat → Int} {c : Nat} {Q : St → Prop} (hc : c < 64) (ht : ∀ i, 0 ≤ t i ∧ t i ≤ 200) (q : Q (sta S 30 0 (hv t c 16))) :
    ∀ (k r n : Nat), r + k = 4 → k < n → wp_X3_clearCell_9 Q n (sta S 30 0 (hv t c (4 * r))) c r := by
  intro k
  induction k with
  | zero =>
    intro r n hx hn
    obtain ⟨n, rfl⟩ : ∃ n', n = n' + 1 := ⟨n - 1, by omega⟩
    have e : r = 4 := by omega
    subst e
    unfold wp_X3_clearCell_9
    exact ⟨⟨by decide, by decide⟩, fun _ => q, fun z => absurd (by decide) z⟩
  | succ k ih =>
    intro r n hx hn
    obtain ⟨n, rfl⟩ : ∃ n', n = n' + 1 := ⟨n - 1, by omega⟩
    have nx := ih (r + 1) n (by omega) (by omega)
    unfold wp_X3_clearCell_9
    refine ⟨⟨by omega, by omega⟩, fun z => absurd z (by omega), fun _ => ⟨5, ?_⟩⟩
    exact cc_loop (x := 0) hc (by omega) ht nx 4 5 (by omega) (by omega)
theorem sx_clearCell {S : St} {c : Nat} {Q : St → Prop} (hc : c < 64) (ht : ∀ i, 0 ≤ S 30 0 i ∧ S 30 0 i ≤ 200) (q : Q (sta (st S 29 0 c 0) 30 0 (hv (S 30 0) c 16))) : wp_X3_clearCell S c Q := by
  unfold wp_X3_clearCell
  rw [Int.toNat_natCast]
  refine ⟨by omega, by omega, fun s1 e1 => ⟨5, ?_⟩⟩
  have e := cr_loop (S := s1) (t := s1 30 0) (c := c) (Q := Q) hc (by rw [e1, rs_ne (by decide)]; exact ht) (by rw [e1, rs_ne (by decide)]; exact q) 4 0 5 (by omega) (by omega)
  have es : sta s1 30 0 (hv (s1 30 0) c (4 * 0)) = s1 := sta_self
  rw [es] at e
  exact e
/-- slash and stems when the cells below n are cleared -/
def clS (g s : Nat → Int) : Nat → Nat → Int
  | 0 => s
  | c + 1 => if g c = 0 then clS g s c else up (clS g s c) c 0
def clT (g t : Nat → Int) : Nat → Nat → Int
  | 0 => t
  | c + 1 => if g c = 0 then clT g t c else hv (clT g t c) c 16
theorem clS_congr {g g' s : Nat → Int} {w : Nat} (e : ∀ c, c < w → (g' c = 0 ↔ g c = 0)) : ∀ c, c ≤ w → clS g' s c = clS g s c := by
  intro c
  induction c with
  | zero => intro _; rfl
  | succ c ih =>
    intro hc
    show (if g' c = 0 then clS g' s c else up (clS g' s c) c 0) = (if g c = 0 then clS g s c else up (clS g s c) c 0)
    rw [ih (by omega)]
    by_cases h : g c = 0
    · rw [if_pos h, if_pos ((e c (by omega)).2 h)]
    · rw [if_neg h, if_neg (fun z => h ((e c (by omega)).1 z))]
theorem clT_congr {g g' t : Nat → Int} {w : Nat} (e : ∀ c, c < w → (g' c = 0 ↔ g c = 0)) : ∀ c, c ≤ w → clT g' t c = clT g t c := by
  intro c
  induction c with
  | zero => intro _; rfl
  | succ c ih =>
    intro hc
    show (if g' c = 0 then clT g' t c else hv (clT g' t c) c 16) = (if g c = 0 then clT g t c else hv (clT g t c) c 16)
    rw [ih (by omega)]
    by_cases h : g c = 0
    · rw [if_pos h, if_pos ((e c (by omega)).2 h)]
    · rw [if_neg h, if_neg (fun z => h ((e c (by omega)).1 z))]
theorem clS_b {g s : Nat → Int} {B : Int} (h : ∀ i, 0 ≤ s i ∧ s i ≤ B) : ∀ c i, 0 ≤ clS g s c i ∧ clS g s c i ≤ B := by
  intro c
  induction c with
  | zero => exact h
  | succ c ih =>
    intro i
    show 0 ≤ (if g c = 0 then clS g s c else up (clS g s c) c 0) i ∧ (if g c = 0 then clS g s c else up (clS g s c) c 0) i ≤ B
    split
    · exact ih i
    · have b := ih i
      unfold up
      split <;> omega
theorem clT_b {g t : Nat → Int} (h : ∀ i, 0 ≤ t i ∧ t i ≤ 200) : ∀ c i, 0 ≤ clT g t c i ∧ clT g t c i ≤ 200 := by
  intro c
  induction c with
  | zero => exact h
  | succ c ih =>
    intro i
    show 0 ≤ (if g c = 0 then clT g t c else hv (clT g t c) c 16) i ∧ (if g c = 0 then clT g t c else hv (clT g t c) c 16) i ≤ 200
    split
    · exact ih i
    · exact hv_b ih 16 i
theorem cb_loop {σ : St} {g s t : Nat → Int} {Q : St → Prop} (hg : σ 34 0 = g) (hb : ∀ c, c < 64 → 0 ≤ g c ∧ g c ≤ 100) (ht : ∀ i, 0 ≤ t i ∧ t i ≤ 200) (q : Q (sta (sta σ 29 0 (clS g s 64)) 30 0 (clT g t 64))) :
    ∀ (k c n : Nat), c + k = 64 → k < n → wp_X3_clearBurnt_2 Q n (sta (sta σ 29 0 (clS g s c)) 30 0 (clT g t c)) c := by
  intro k
  induction k with
  | zero =>
    intro c n hc hn
    obtain ⟨n, rfl⟩ : ∃ n', n = n' + 1 := ⟨n - 1, by omega⟩
    have e : c = 64 := by omega
    subst e
    unfold wp_X3_clearBurnt_2
    exact ⟨⟨by decide, by decide⟩, fun _ => q, fun z => absurd (by decide) z⟩
  | succ k ih =>
    intro c n hc hn
    obtain ⟨n, rfl⟩ : ∃ n', n = n' + 1 := ⟨n - 1, by omega⟩
    have nx := ih (c + 1) n (by omega) (by omega)
    have b := hb c (by omega)
    have n1 : clS g s (c + 1) = if g c = 0 then clS g s c else up (clS g s c) c 0 := rfl
    have n2 : clT g t (c + 1) = if g c = 0 then clT g t c else hv (clT g t c) c 16 := rfl
    have r34 : sta (sta σ 29 0 (clS g s c)) 30 0 (clT g t c) 34 0 = g := by rw [ra_ne (by decide), ra_ne (by decide), hg]
    unfold wp_X3_clearBurnt_2 wp_X3_clearBurnt_22
    rw [Int.toNat_natCast, r34, show ((c : Int) + 1) = ((c + 1 : Nat) : Int) by omega]
    refine ⟨⟨by omega, by omega⟩, fun z => absurd z (by omega), fun _ => ⟨by omega, by omega, ⟨by omega, by omega⟩, fun y => ?_, fun y => ?_⟩⟩
    · rw [n1, n2, if_pos (by omega), if_pos (by omega)] at nx
      exact nx
    · rw [n1, n2, if_neg (by omega), if_neg (by omega)] at nx
      refine sx_clearCell (by omega) (by rw [ra_eq]; exact clT_b ht c) ?_
      rw [ra_eq, st_stac (by decide), st_stae, sta_sta]
      exact nx
