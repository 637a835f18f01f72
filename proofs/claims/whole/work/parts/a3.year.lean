/-! the year's end, on both sides -/
def grS (g : Int) (t : Nat → Int) (a : Nat) : Nat → Int := up (up t a (t a - min (Int.tdiv (t a * g) 100) (200 - t (a + 1)))) (a + 1) (t (a + 1) + min (Int.tdiv (t a * g) 100) (200 - t (a + 1)))
def ykF (g : Int) (b : Nat) (t : Nat → Int) : Nat → Nat → Int
  | 0 => t
  | d + 1 => grS g (ykF g b t d) (b + 2 - d)
def ysF (gr : Nat → Int) (c : Nat) (t : Nat → Int) : Nat → Nat → Int
  | 0 => t
  | s + 1 => ykF (gr s) (16 * c + 4 * s) (ysF gr c t s) 3
def ycF (gr : Nat → Int) (t : Nat → Int) : Nat → Nat → Int
  | 0 => t
  | c + 1 => ysF gr c (ycF gr t c) 4
def yhF (h : Nat → Int) : Nat → Nat → Int
  | 0 => h
  | c + 1 => up (yhF h c) c (Int.tdiv (yhF h c c) 2)
def YB (t : Nat → Int) : Prop := ∀ i, 0 ≤ t i ∧ t i ≤ 200
theorem gr_n {g a b : Int} (hg : 0 ≤ g ∧ g ≤ 100) (ha : 0 ≤ a ∧ a ≤ 200) (hb : 0 ≤ b ∧ b ≤ 200) : inR (a * g) ∧ inR (Int.tdiv (a * g) 100) ∧ 0 ≤ min (Int.tdiv (a * g) 100) (200 - b) ∧ min (Int.tdiv (a * g) 100) (200 - b) ≤ a ∧ min (Int.tdiv (a * g) 100) (200 - b) ≤ 200 - b := by
  have p := Int.mul_nonneg ha.1 hg.1
  have p2 : a * g ≤ a * 100 := Int.mul_le_mul_of_nonneg_left hg.2 ha.1
  rw [Int.tdiv_eq_ediv_of_nonneg p]
  have m1 : min (a * g / 100) (200 - b) ≤ a * g / 100 := Int.min_le_left _ _
  have m2 : min (a * g / 100) (200 - b) ≤ 200 - b := Int.min_le_right _ _
  have m3 : 0 ≤ min (a * g / 100) (200 - b) := by
    by_cases c : a * g / 100 ≤ 200 - b
    · rw [Int.min_eq_left c]; omega
    · rw [Int.min_eq_right (by omega)]; omega
  refine ⟨⟨by omega, by omega⟩, ⟨by omega, by omega⟩, m3, by omega, m2⟩
theorem YB_gr {g : Int} {t : Nat → Int} {a : Nat} (h : YB t) (hg : 0 ≤ g ∧ g ≤ 100) : YB (grS g t a) := by
  obtain ⟨-, -, n1, n2, n3⟩ := gr_n hg (h a) (h (a + 1))
  intro i
  have hi := h i
  have h1 := h a
  have h2 := h (a + 1)
  unfold grS up
  try dsimp only
  split
  · omega
  · split <;> omega
theorem YB_k {g : Int} {b : Nat} {t : Nat → Int} (h : YB t) (hg : 0 ≤ g ∧ g ≤ 100) : ∀ d, YB (ykF g b t d) := by
  intro d
  induction d with
  | zero => exact h
  | succ d ih => exact YB_gr ih hg
theorem YB_s {gr : Nat → Int} {c : Nat} {t : Nat → Int} (h : YB t) (hg : ∀ i, 0 ≤ gr i ∧ gr i ≤ 100) : ∀ s, YB (ysF gr c t s) := by
  intro s
  induction s with
  | zero => exact h
  | succ s ih => exact YB_k ih (hg s) 3
theorem YB_c {gr : Nat → Int} {t : Nat → Int} (h : YB t) (hg : ∀ i, 0 ≤ gr i ∧ gr i ≤ 100) : ∀ c, YB (ycF gr t c) := by
  intro c
  induction c with
  | zero => exact h
  | succ c ih => exact YB_s ih hg 4
theorem yhF_b {h : Nat → Int} {B : Int} (hb : ∀ i, 0 ≤ h i ∧ h i ≤ B) : ∀ c, ∀ i, 0 ≤ yhF h c i ∧ yhF h c i ≤ B := by
  intro c
  induction c with
  | zero => exact hb
  | succ c ih =>
    intro i
    have a := ih i
    have b := ih c
    have e : yhF h (c + 1) = up (yhF h c) c (Int.tdiv (yhF h c c) 2) := rfl
    rw [e, Int.tdiv_eq_ediv_of_nonneg b.1]
    unfold up
    split <;> omega
def yrX (S : St) (t h : Nat → Int) : St := sta (sta S 30 0 t) 29 0 h
theorem yrX_30 {S : St} {t h : Nat → Int} {i : Nat} {v : Int} : st (yrX S t h) 30 0 i v = yrX S (up t i v) h := by
  unfold yrX
  rw [st_stac (by decide), st_stae]
theorem yrX_29 {S : St} {t h : Nat → Int} {i : Nat} {v : Int} : st (yrX S t h) 29 0 i v = yrX S t (up h i v) := by
  unfold yrX
  rw [st_stae]
theorem yrX_r30 {S : St} {t h : Nat → Int} : yrX S t h 30 0 = t := by
  unfold yrX
  rw [ra_ne (by decide), ra_eq]
theorem yrX_r29 {S : St} {t h : Nat → Int} : yrX S t h 29 0 = h := by
  unfold yrX
  rw [ra_eq]
theorem yrX_k {S : St} {t h : Nat → Int} {k : Nat} (h1 : ¬ k = 30) (h2 : ¬ k = 29) : yrX S t h k = S k := by
  unfold yrX
  rw [ra_ne h2, ra_ne h1]
theorem sx_grow {S : St} {t h : Nat → Int} {a : Nat} {g : Int} {Q : St → Prop} (ht : YB t) (hg : 0 ≤ g ∧ g ≤ 100) (ha : a + 1 < 1024) (q : Q (yrX S (grS g t a) h)) : wp_X3_growClass (yrX S t h) a g Q := by
  obtain ⟨n1, n2, n3, n4, n5⟩ := gr_n hg (ht a) (ht (a + 1))
  have h1 := ht a
  have h2 := ht (a + 1)
  unfold wp_X3_growClass
  rw [yrX_r30, show Int.toNat ((a : Int) + 1) = a + 1 by omega, Int.toNat_natCast]
  refine ⟨by omega, by omega, fun v ev => ⟨by omega, by omega, n1, ?_⟩⟩
  subst ev
  refine j_min n2 ⟨by omega, by omega⟩ ?_
  rw [yrX_r30, yrX_30]
  refine ⟨by omega, by omega, by omega, by omega, fun s13 e13 => ?_⟩
  subst e13
  rw [yrX_r30, yrX_30, up_ne (by omega)]
  refine ⟨by omega, by omega, by omega, by omega, fun s18 e18 => ?_⟩
  rw [e18]
  exact q
theorem yk_loop {S : St} {t h : Nat → Int} {c s : Nat} {K : St → Int → Int → Prop} {Q : St → Prop} (ht : YB t) (hg : 0 ≤ S 32 0 s ∧ S 32 0 s ≤ 100) (hc : c < 64) (hs : s < 4) (q : K (yrX S (ykF (S 32 0 s) (16 * c + 4 * s) t 3) h) c s) :
    ∀ (k d n : Nat), d + k = 3 → k < n → wp_X3_endYear_17 K Q n (yrX S (ykF (S 32 0 s) (16 * c + 4 * s) t d) h) c s (2 - (d : Int)) := by
  intro k
  induction k with
  | zero =>
    intro d n hk hn
    obtain ⟨n, rfl⟩ : ∃ n', n = n' + 1 := ⟨n - 1, by omega⟩
    have e : d = 3 := by omega
    subst e
    unfold wp_X3_endYear_17
    exact ⟨⟨by decide, by decide⟩, fun _ => q, fun z => absurd (by decide) z⟩
  | succ k ih =>
    intro d n hk hn
    obtain ⟨n, rfl⟩ : ∃ n', n = n' + 1 := ⟨n - 1, by omega⟩
    have nx := ih (d + 1) n (by omega) (by omega)
    unfold wp_X3_endYear_17 wp_X3_stemPlace
    dsimp only
    rw [Int.toNat_natCast, yrX_k (by decide) (by decide)]
    refine ⟨⟨by omega, by omega⟩, fun z => absurd z (by omega), fun _ => ⟨by omega, by omega, ?_⟩⟩
    rw [show (c : Int) * 16 + (s : Int) * 4 + (2 - (d : Int)) = ((16 * c + 4 * s + 2 - d : Nat) : Int) by omega]
    refine sx_grow (YB_k ht hg d) hg (by omega) ?_
    rw [show (2 - (d : Int) + -1) = 2 - ((d + 1 : Nat) : Int) by omega]
    exact nx
theorem ys_loop {S : St} {t h : Nat → Int} {c : Nat} {K : St → Int → Prop} {Q : St → Prop} (ht : YB t) (hg : ∀ i, 0 ≤ S 32 0 i ∧ S 32 0 i ≤ 100) (hc : c < 64) (q : K (yrX S (ysF (S 32 0) c t 4) h) c) :
    ∀ (k s n : Nat), s + k = 4 → k < n → wp_X3_endYear_10 K Q n (yrX S (ysF (S 32 0) c t s) h) c s := by
  intro k
  induction k with
  | zero =>
    intro s n hk hn
    obtain ⟨n, rfl⟩ : ∃ n', n = n' + 1 := ⟨n - 1, by omega⟩
    have e : s = 4 := by omega
    subst e
    unfold wp_X3_endYear_10
    exact ⟨⟨by decide, by decide⟩, fun _ => q, fun z => absurd (by decide) z⟩
  | succ k ih =>
    intro s n hk hn
    obtain ⟨n, rfl⟩ : ∃ n', n = n' + 1 := ⟨n - 1, by omega⟩
    have nx := ih (s + 1) n (by omega) (by omega)
    unfold wp_X3_endYear_10
    refine ⟨⟨by omega, by omega⟩, fun z => absurd z (by omega), fun _ => ⟨5, ?_⟩⟩
    refine yk_loop (YB_s ht hg s) (hg s) hc (by omega) ?_ 3 0 5 (by omega) (by omega)
    unfold wp_X3_endYear_43
    rw [show ((s : Int) + 1) = ((s + 1 : Nat) : Int) by omega]
    exact nx
theorem yc_loop {S : St} {t h : Nat → Int} {B : Int} {Q : St → Prop} (ht : YB t) (hg : ∀ i, 0 ≤ S 32 0 i ∧ S 32 0 i ≤ 100) (hh : ∀ i, 0 ≤ h i ∧ h i ≤ B) (hB : B ≤ 1000000) (q : Q (yrX S (ycF (S 32 0) t 64) (yhF h 64))) :
    ∀ (k c n : Nat), c + k = 64 → k < n → wp_X3_endYear_2 Q n (yrX S (ycF (S 32 0) t c) (yhF h c)) c := by
  intro k
  induction k with
  | zero =>
    intro c n hk hn
    obtain ⟨n, rfl⟩ : ∃ n', n = n' + 1 := ⟨n - 1, by omega⟩
    have e : c = 64 := by omega
    subst e
    unfold wp_X3_endYear_2
    exact ⟨⟨by decide, by decide⟩, fun _ => q, fun z => absurd (by decide) z⟩
  | succ k ih =>
    intro c n hk hn
    obtain ⟨n, rfl⟩ : ∃ n', n = n' + 1 := ⟨n - 1, by omega⟩
    have nx := ih (c + 1) n (by omega) (by omega)
    have hb := yhF_b hh c c
    unfold wp_X3_endYear_2
    refine ⟨⟨by omega, by omega⟩, fun z => absurd z (by omega), fun _ => ⟨6, ?_⟩⟩
    refine ys_loop (YB_c ht hg c) hg (by omega) ?_ 4 0 6 (by omega) (by omega)
    unfold wp_X3_endYear_49
    rw [Int.toNat_natCast, yrX_r29, yrX_29, show ((c : Int) + 1) = ((c + 1 : Nat) : Int) by omega]
    refine ⟨by omega, by omega, ⟨by omega, by omega⟩, by omega, by omega, fun s6 e6 => ?_⟩
    rw [e6]
    exact nx
theorem sx_year {S : St} {B : Int} {Q : St → Prop} (ht : YB (S 30 0)) (hg : ∀ i, 0 ≤ S 32 0 i ∧ S 32 0 i ≤ 100) (hh : ∀ i, 0 ≤ S 29 0 i ∧ S 29 0 i ≤ B) (hB : B ≤ 1000000) (q : Q (yrX S (ycF (S 32 0) (S 30 0) 64) (yhF (S 29 0) 64))) : wp_X3_endYear S Q := by
  refine ⟨66, ?_⟩
  have e := yc_loop ht hg hh hB q 64 0 66 (by omega) (by omega)
  have e0 : yrX S (ycF (S 32 0) (S 30 0) 0) (yhF (S 29 0) 0) = S := by
    show sta (sta S 30 0 (S 30 0)) 29 0 (S 29 0) = S
    rw [sta_self, sta_self]
  rw [e0] at e
  exact e
/-! the reference's -/
def yrM (S : St) (t h : Nat → Int) : St := sta (sta S 85 0 t) 84 0 h
theorem yrM_85 {S : St} {t h : Nat → Int} {i : Nat} {v : Int} : st (yrM S t h) 85 0 i v = yrM S (up t i v) h := by
  unfold yrM
  rw [st_stac (by decide), st_stae]
theorem yrM_84 {S : St} {t h : Nat → Int} {i : Nat} {v : Int} : st (yrM S t h) 84 0 i v = yrM S t (up h i v) := by
  unfold yrM
  rw [st_stae]
theorem yrM_r85 {S : St} {t h : Nat → Int} : yrM S t h 85 0 = t := by
  unfold yrM
  rw [ra_ne (by decide), ra_eq]
theorem yrM_r84 {S : St} {t h : Nat → Int} : yrM S t h 84 0 = h := by
  unfold yrM
  rw [ra_eq]
theorem yrM_k {S : St} {t h : Nat → Int} {k : Nat} (h1 : ¬ k = 85) (h2 : ¬ k = 84) : yrM S t h k = S k := by
  unfold yrM
  rw [ra_ne h2, ra_ne h1]
theorem ykm_loop {S : St} {t h : Nat → Int} {c s : Nat} {K : St → Int → Int → Prop} {Q : St → Prop} (ht : YB t) (hg : 0 ≤ S 86 0 s ∧ S 86 0 s ≤ 100) (hc : c < 64) (hs : s < 4) (q : K (yrM S (ykF (S 86 0 s) (16 * c + 4 * s) t 3) h) c s) :
    ∀ (k d n : Nat), d + k = 3 → k < n → wp_X12_yearEnds_17 K Q n (yrM S (ykF (S 86 0 s) (16 * c + 4 * s) t d) h) c s (2 - (d : Int)) := by
  intro k
  induction k with
  | zero =>
    intro d n hk hn
    obtain ⟨n, rfl⟩ : ∃ n', n = n' + 1 := ⟨n - 1, by omega⟩
    have e : d = 3 := by omega
    subst e
    unfold wp_X12_yearEnds_17
    exact ⟨⟨by decide, by decide⟩, fun _ => q, fun z => absurd (by decide) z⟩
  | succ k ih =>
    intro d n hk hn
    obtain ⟨n, rfl⟩ : ∃ n', n = n' + 1 := ⟨n - 1, by omega⟩
    have nx := ih (d + 1) n (by omega) (by omega)
    have yb := YB_k (b := 16 * c + 4 * s) ht hg d
    have eN : ykF (S 86 0 s) (16 * c + 4 * s) t (d + 1) = grS (S 86 0 s) (ykF (S 86 0 s) (16 * c + 4 * s) t d) (16 * c + 4 * s + 2 - d) := rfl
    rw [eN] at nx
    obtain ⟨t', et⟩ : ∃ t', t' = ykF (S 86 0 s) (16 * c + 4 * s) t d := ⟨_, rfl⟩
    rw [← et] at yb nx ⊢
    obtain ⟨a, ea⟩ : ∃ a : Nat, a = 16 * c + 4 * s + 2 - d := ⟨_, rfl⟩
    rw [← ea] at nx
    obtain ⟨n1, n2, n3, n4, n5⟩ := gr_n hg (yb a) (yb (a + 1))
    have h1 := yb a
    have h2 := yb (a + 1)
    have fin : ∀ y0, y0 = min (Int.tdiv (t' a * S 86 0 s) 100) (200 - t' (a + 1)) → wp_X12_yearEnds_84 (fun σ x1 x2 x3 => wp_X12_yearEnds_17 K Q n σ x1 x2 x3) K Q (yrM S t' h) c s (2 - (d : Int)) a y0 := by
      intro y0 ey
      unfold wp_X12_yearEnds_84
      rw [Int.toNat_natCast, show Int.toNat ((a : Int) + 1) = a + 1 by omega, yrM_r85, yrM_85]
      refine ⟨by omega, by omega, by omega, by omega, fun s11 e11 => ?_⟩
      subst e11
      rw [yrM_r85, yrM_85, up_ne (by omega)]
      refine ⟨by omega, by omega, by omega, by omega, fun s16 e16 => ?_⟩
      rw [e16, ey, show (2 - (d : Int) + -1) = 2 - ((d + 1 : Nat) : Int) by omega]
      exact nx
    unfold wp_X12_yearEnds_17 wp_X12_stemAt
    dsimp only
    rw [show 16 * (c : Int) + 4 * (s : Int) + (2 - (d : Int)) = (a : Int) by omega, Int.toNat_natCast, Int.toNat_natCast, show Int.toNat ((a : Int) + 1) = a + 1 by omega, yrM_r85, yrM_k (by decide) (by decide)]
    refine ⟨⟨by omega, by omega⟩, fun z => absurd z (by omega), fun _ => ⟨by omega, by omega, by omega, by omega, n1, fun v ev => ⟨by omega, by omega, by rw [ev]; exact n2, ⟨by omega, by omega⟩, fun z => ?_, fun z => ⟨by omega, by omega, ?_⟩⟩⟩⟩
    · refine fin v ?_
      rw [← ev, Int.min_eq_left z]
    · refine fin _ ?_
      rw [← ev, Int.min_eq_right (by omega)]
theorem ysm_loop {S : St} {t h : Nat → Int} {c : Nat} {K : St → Int → Prop} {Q : St → Prop} (ht : YB t) (hg : ∀ i, 0 ≤ S 86 0 i ∧ S 86 0 i ≤ 100) (hc : c < 64) (q : K (yrM S (ysF (S 86 0) c t 4) h) c) :
    ∀ (k s n : Nat), s + k = 4 → k < n → wp_X12_yearEnds_10 K Q n (yrM S (ysF (S 86 0) c t s) h) c s := by
  intro k
  induction k with
  | zero =>
    intro s n hk hn
    obtain ⟨n, rfl⟩ : ∃ n', n = n' + 1 := ⟨n - 1, by omega⟩
    have e : s = 4 := by omega
    subst e
    unfold wp_X12_yearEnds_10
    exact ⟨⟨by decide, by decide⟩, fun _ => q, fun z => absurd (by decide) z⟩
  | succ k ih =>
    intro s n hk hn
    obtain ⟨n, rfl⟩ : ∃ n', n = n' + 1 := ⟨n - 1, by omega⟩
    have nx := ih (s + 1) n (by omega) (by omega)
    unfold wp_X12_yearEnds_10
    refine ⟨⟨by omega, by omega⟩, fun z => absurd z (by omega), fun _ => ⟨5, ?_⟩⟩
    refine ykm_loop (YB_s ht hg s) (hg s) hc (by omega) ?_ 3 0 5 (by omega) (by omega)
    unfold wp_X12_yearEnds_118
    rw [show ((s : Int) + 1) = ((s + 1 : Nat) : Int) by omega]
    exact nx
theorem ycm_loop {S : St} {t h : Nat → Int} {B : Int} {Q : St → Prop} (ht : YB t) (hg : ∀ i, 0 ≤ S 86 0 i ∧ S 86 0 i ≤ 100) (hh : ∀ i, 0 ≤ h i ∧ h i ≤ B) (hB : B ≤ 1000000) (q : Q (yrM S (ycF (S 86 0) t 64) (yhF h 64))) :
    ∀ (k c n : Nat), c + k = 64 → k < n → wp_X12_yearEnds_2 Q n (yrM S (ycF (S 86 0) t c) (yhF h c)) c := by
  intro k
  induction k with
  | zero =>
    intro c n hk hn
    obtain ⟨n, rfl⟩ : ∃ n', n = n' + 1 := ⟨n - 1, by omega⟩
    have e : c = 64 := by omega
    subst e
    unfold wp_X12_yearEnds_2
    exact ⟨⟨by decide, by decide⟩, fun _ => q, fun z => absurd (by decide) z⟩
  | succ k ih =>
    intro c n hk hn
    obtain ⟨n, rfl⟩ : ∃ n', n = n' + 1 := ⟨n - 1, by omega⟩
    have nx := ih (c + 1) n (by omega) (by omega)
    have hb := yhF_b hh c c
    unfold wp_X12_yearEnds_2
    refine ⟨⟨by omega, by omega⟩, fun z => absurd z (by omega), fun _ => ⟨6, ?_⟩⟩
    refine ysm_loop (YB_c ht hg c) hg (by omega) ?_ 4 0 6 (by omega) (by omega)
    unfold wp_X12_yearEnds_124
    rw [Int.toNat_natCast, yrM_r84, yrM_84, show ((c : Int) + 1) = ((c + 1 : Nat) : Int) by omega]
    refine ⟨by omega, by omega, ⟨by omega, by omega⟩, by omega, by omega, fun s6 e6 => ?_⟩
    rw [e6]
    exact nx
theorem sm_year {S : St} {B : Int} {Q : St → Prop} (ht : YB (S 85 0)) (hg : ∀ i, 0 ≤ S 86 0 i ∧ S 86 0 i ≤ 100) (hh : ∀ i, 0 ≤ S 84 0 i ∧ S 84 0 i ≤ B) (hB : B ≤ 1000000) (q : Q (yrM S (ycF (S 86 0) (S 85 0) 64) (yhF (S 84 0) 64))) : wp_X12_yearEnds S Q := by
  refine ⟨66, ?_⟩
  have e := ycm_loop ht hg hh hB q 64 0 66 (by omega) (by omega)
  have e0 : yrM S (ycF (S 86 0) (S 85 0) 0) (yhF (S 84 0) 0) = S := by
    show sta (sta S 85 0 (S 85 0)) 84 0 (S 84 0) = S
    rw [sta_self, sta_self]
  rw [e0] at e
  exact e
