/-! a day goes by: the run over logs and ways, of the class -/
def dyS (td mill fr to snk : Int) (wd vl : Nat → Int) (p : Int × Int × St) (l : Nat) : Int × Int × St := if p.2.2 102 0 l = 0 ∧ p.2.2 95 0 l = fr ∧ p.2.2 103 0 l < td ∧ vl l ≤ p.1 then (p.1 - vl l, p.2.1 + 1, dyG p.2.2 td mill to snk wd l) else p
def dyR (td mill fr to snk : Int) (wd vl : Nat → Int) (p : Int × Int × St) : Nat → Int × Int × St
  | 0 => p
  | l + 1 => dyS td mill fr to snk wd vl (dyR td mill fr to snk wd vl p l) l
theorem dyG_k {V : St} {td mill to snk : Int} {wd : Nat → Int} {l k : Nat} (h1 : ¬ k = 95) (h2 : ¬ k = 102) (h3 : ¬ k = 103) (h4 : ¬ k = 104) (h5 : ¬ k = 105) : dyG V td mill to snk wd l k = V k := by
  unfold dyG bcm mvM
  split
  · rw [rs_ne h5, rs_ne h4, rs_ne h2, rs_ne h3, rs_ne h1]
  · rw [rs_ne h3, rs_ne h1]
theorem dyR_k {td mill fr to snk : Int} {wd vl : Nat → Int} {p : Int × Int × St} {k : Nat} (h1 : ¬ k = 95) (h2 : ¬ k = 102) (h3 : ¬ k = 103) (h4 : ¬ k = 104) (h5 : ¬ k = 105) : ∀ l, (dyR td mill fr to snk wd vl p l).2.2 k = p.2.2 k := by
  intro l
  induction l with
  | zero => rfl
  | succ l ih =>
    show (dyS td mill fr to snk wd vl (dyR td mill fr to snk wd vl p l) l).2.2 k = p.2.2 k
    unfold dyS
    split
    · show dyG _ _ _ _ _ _ _ k = _
      rw [dyG_k h1 h2 h3 h4 h5, ih]
    · exact ih
theorem dyR_b {td mill fr to snk : Int} {wd vl : Nat → Int} {p : Int × Int × St} {m : Nat} (hp : 0 ≤ p.1 ∧ p.1 ≤ 200) (hv : ∀ l, l < m → 1 ≤ vl l) : ∀ l, l ≤ m → 0 ≤ (dyR td mill fr to snk wd vl p l).1 ∧ (dyR td mill fr to snk wd vl p l).1 ≤ 200 ∧ p.2.1 ≤ (dyR td mill fr to snk wd vl p l).2.1 ∧ (dyR td mill fr to snk wd vl p l).2.1 ≤ p.2.1 + l := by
  intro l
  induction l with
  | zero =>
    intro _
    exact ⟨hp.1, hp.2, Int.le_refl _, by show p.2.1 ≤ _; omega⟩
  | succ l ih =>
    intro hl
    have a := ih (by omega)
    have v := hv l (by omega)
    have e : dyR td mill fr to snk wd vl p (l + 1) = dyS td mill fr to snk wd vl (dyR td mill fr to snk wd vl p l) l := rfl
    rw [e]
    unfold dyS
    split
    · next h =>
      have h4 := h.2.2.2
      dsimp only
      omega
    · omega
theorem dyR_stop {td mill fr to snk : Int} {wd vl : Nat → Int} {p : Int × Int × St} {m i : Nat} (hv : ∀ l, l < m → 1 ≤ vl l) (h0 : (dyR td mill fr to snk wd vl p i).1 ≤ 0) : ∀ k, i + k ≤ m → dyR td mill fr to snk wd vl p (i + k) = dyR td mill fr to snk wd vl p i := by
  intro k
  induction k with
  | zero => intro _; rfl
  | succ k ih =>
    intro hk
    have a := ih (by omega)
    have v := hv (i + k) (by omega)
    have e : dyR td mill fr to snk wd vl p (i + (k + 1)) = dyS td mill fr to snk wd vl (dyR td mill fr to snk wd vl p (i + k)) (i + k) := rfl
    rw [e, a]
    unfold dyS
    exact if_neg (fun z => by omega)
theorem dyR_none {td mill fr to snk : Int} {wd vl : Nat → Int} {p : Int × Int × St} {m : Nat} (h : ∀ l, l < m → ¬ (p.2.2 102 0 l = 0 ∧ p.2.2 95 0 l = fr)) : ∀ k, k ≤ m → dyR td mill fr to snk wd vl p k = p := by
  intro k
  induction k with
  | zero => intro _; rfl
  | succ k ih =>
    intro hk
    have a := ih (by omega)
    have e : dyR td mill fr to snk wd vl p (k + 1) = dyS td mill fr to snk wd vl (dyR td mill fr to snk wd vl p k) k := rfl
    rw [e, a]
    unfold dyS
    exact if_neg (fun z => h k (by omega) ⟨z.1, z.2.1⟩)
theorem lies_in {state cell : Nat → Int} {c : Int} : ∀ n : Nat, 0 ≤ lies state cell c n ∧ lies state cell c n ≤ n ∧ (lies state cell c n ≤ 0 → ∀ l, l < n → ¬ (state l = 0 ∧ cell l = c)) := by
  intro n
  induction n with
  | zero => exact ⟨Int.le_refl _, Int.le_refl _, fun _ l hl => absurd hl (by omega)⟩
  | succ n ih =>
    obtain ⟨a, b, d⟩ := ih
    have e : lies state cell c (n + 1) = lies state cell c n + (if state n = 0 ∧ cell n = c then 1 else 0) := rfl
    rw [e]
    by_cases w : state n = 0 ∧ cell n = c
    · rw [if_pos w]
      exact ⟨by omega, by omega, fun z => absurd z (by omega)⟩
    · rw [if_neg w]
      refine ⟨by omega, by omega, fun z l hl => ?_⟩
      by_cases e2 : l = n
      · rw [e2]; exact w
      · exact d (by omega) l (by omega)
theorem sx_waits {S : St} {l : Nat} {fr td s c a : Int} {Q : Int → St → Prop} (hl : S 50 4 l ≠ 0) (h8 : S 4 l 8 = s) (h5 : S 4 l 5 = c) (h7 : S 4 l 7 = a) (hs : inR s) (hc : inR c) (ha : inR a) (hf : inR fr) (ht : inR td) (q1 : s = 0 ∧ c = fr ∧ a < td → Q 1 S) (q0 : ¬ (s = 0 ∧ c = fr ∧ a < td) → Q 0 S) : wp_X4_waitsIn S l fr td Q := by
  unfold wp_X4_waitsIn wp_X4_liesIn
  dsimp only
  rw [h8, h5, h7]
  refine ⟨hl, hl, hs, fun z => ⟨in0, fun _ => q0 (fun y => z y.1), fun y => absurd rfl y⟩, fun z => ⟨hl, hc, hf, fun y => ⟨in0, fun _ => q0 (fun u => y u.2.1), fun u => absurd rfl u⟩, fun y => ⟨in1, fun u => absurd u (by decide), fun _ => ⟨hl, ha, ht, fun u => q0 (fun v => by omega), fun u => q1 ⟨z, y, by omega⟩⟩⟩⟩⟩
theorem vol_b {u w : Int} (hu : 2 ≤ u ∧ u ≤ 6) (hw : 1 ≤ w ∧ w ≤ 32) : inR (u * w) ∧ 1 ≤ Int.tdiv (u * w) 8 + 1 ∧ Int.tdiv (u * w) 8 + 1 ≤ 25 := by
  have a := Int.mul_nonneg (show 0 ≤ u by omega) (show 0 ≤ w by omega)
  have b := Int.mul_le_mul hu.2 hw.2 (show 0 ≤ w by omega) (show (0 : Int) ≤ 6 by decide)
  rw [Int.tdiv_eq_ediv_of_nonneg a]
  exact ⟨⟨by omega, by omega⟩, by omega, by omega⟩
def vlv (σ : St) : Nat → Int := fun l => Int.tdiv (σ 97 0 l * σ 98 0 l) 8 + 1
def FrD (σ S : St) : Prop := ∀ k, ¬ k = 4 → ¬ k = 31 → ¬ k = 35 → ¬ k = 36 → ¬ k = 37 → ¬ k = 75 → S k = σ k
theorem co_loop {σ V0 : St} {w fr to m : Nat} {td mill snk r0 n0 : Int} {Q : Int → St → Prop} (hm : σ 11 0 4 = m) (hm3 : m ≤ 300) (h97 : V0 97 = σ 97) (h98 : V0 98 = σ 98) (hr : 0 ≤ r0 ∧ r0 ≤ 200) (hv : ∀ l, l < m → 1 ≤ vlv σ l) (hn : 0 ≤ n0 ∧ n0 ≤ 100000) (hfr : fr < 64) (ht : to < 64) (hw : σ 50 10 w ≠ 0) (h1 : σ 10 w 1 = fr) (h2 : σ 10 w 2 = to) (h0 : inR (σ 10 w 0)) (hsk : SkyX (σ 7 0) (σ 64 0) (σ 65 0)) (htd : σ 7 0 3 = td) (hb : 0 ≤ td ∧ td ≤ 3999) (hmi : σ 3 0 6 = mill) (hmb : 0 ≤ mill ∧ mill ≤ 63) (hsn : snk = 1 ↔ σ 10 w 0 = 4 ∧ wea σ 1 = 9)
    (q : ∀ S, RelL S (dyR td mill fr to snk (σ 98 0) (vlv σ) (r0, n0, V0) m).2.2 → FrD σ S → Q (dyR td mill fr to snk (σ 98 0) (vlv σ) (r0, n0, V0) m).2.1 S) :
    ∀ (k i n : Nat) (S : St), i + k = m → k < n → RelL S (dyR td mill fr to snk (σ 98 0) (vlv σ) (r0, n0, V0) i).2.2 → FrD σ S → wp_X11_carryOver_11 Q n S w (dyR td mill fr to snk (σ 98 0) (vlv σ) (r0, n0, V0) i).1 (dyR td mill fr to snk (σ 98 0) (vlv σ) (r0, n0, V0) i).2.1 i := by
  intro k
  induction k with
  | zero =>
    intro i n S hk hn1 hR hF
    obtain ⟨n, rfl⟩ : ∃ n', n = n' + 1 := ⟨n - 1, by omega⟩
    have e : i = m := by omega
    subst e
    unfold wp_X11_carryOver_11
    rw [hF 11 (by decide) (by decide) (by decide) (by decide) (by decide) (by decide), hm]
    exact ⟨⟨by omega, by omega⟩, ⟨by omega, by omega⟩, fun _ => q S hR hF, fun z => absurd (Int.le_refl _) z⟩
  | succ k ih =>
    intro i n S hk hn1 hR hF
    obtain ⟨n, rfl⟩ : ∃ n', n = n' + 1 := ⟨n - 1, by omega⟩
    have rb := dyR_b (td := td) (mill := mill) (fr := fr) (to := to) (snk := snk) (wd := σ 98 0) (p := (r0, n0, V0)) hr hv i (by omega)
    have st1 := dyR_stop (td := td) (mill := mill) (fr := fr) (to := to) (snk := snk) (wd := σ 98 0) (p := (r0, n0, V0)) (i := i) hv
    have rk := fun (k : Nat) (h1 : ¬ k = 95) (h2 : ¬ k = 102) (h3 : ¬ k = 103) (h4 : ¬ k = 104) (h5 : ¬ k = 105) => dyR_k (td := td) (mill := mill) (fr := fr) (to := to) (snk := snk) (wd := σ 98 0) (vl := vlv σ) (p := (r0, n0, V0)) h1 h2 h3 h4 h5 i
    have nxt : dyR td mill fr to snk (σ 98 0) (vlv σ) (r0, n0, V0) (i + 1) = dyS td mill fr to snk (σ 98 0) (vlv σ) (dyR td mill fr to snk (σ 98 0) (vlv σ) (r0, n0, V0) i) i := rfl
    have ih' := fun S => ih (i + 1) n S (by omega) (by omega)
    rw [nxt] at ih'
    have em : i + (k + 1) = m := hk
    have st2 := fun h0 => st1 h0 (k + 1) (by omega)
    rw [em] at st2
    obtain ⟨p, ep⟩ : ∃ p, p = dyR td mill fr to snk (σ 98 0) (vlv σ) (r0, n0, V0) i := ⟨_, rfl⟩
    rw [← ep] at hR rb rk ih' st2 ⊢
    clear ih nxt st1
    have q97 : p.2.2 97 = σ 97 := by rw [rk 97 (by decide) (by decide) (by decide) (by decide) (by decide)]; exact h97
    have q98 : p.2.2 98 = σ 98 := by rw [rk 98 (by decide) (by decide) (by decide) (by decide) (by decide)]; exact h98
    have f := fun (k : Nat) (h : k < 4 ∨ (4 < k ∧ k < 31) ∨ (37 < k ∧ k < 75) ∨ 75 < k) => hF k (by omega) (by omega) (by omega) (by omega) (by omega) (by omega)
    have s11 : S 11 0 4 = m := by rw [f 11 (by omega), hm]
    have hR0 := hR
    obtain ⟨hA, hB, ⟨v1, v2, v3, v4⟩, hY, hK⟩ := hR
    obtain ⟨⟨a0, a1, a2, -⟩, -, -, aw⟩ := hA i (by omega)
    obtain ⟨⟨b5, b7, b8⟩, ⟨-, gh⟩, gc, -⟩ := hB i (by omega)
    have sb : 0 ≤ p.2.2 102 0 i ∧ p.2.2 102 0 i ≤ 4 := by
      rcases gh with h | h | h | h | h <;> omega
    rw [q97] at a1 aw
    rw [q98] at a2 aw
    have lv := v3 i (by omega)
    have vb := vol_b (u := σ 97 0 i) (w := σ 98 0 i) (by omega) (by omega)
    have ev : Int.tdiv (σ 97 0 i * σ 98 0 i) 8 + 1 = vlv σ i := rfl
    unfold wp_X11_carryOver_11 wp_X11_carryOver_84
    rw [s11, Int.toNat_natCast, show ((i : Int) + 1) = ((i + 1 : Nat) : Int) by omega]
    refine ⟨⟨by omega, by omega⟩, ⟨by omega, by omega⟩, fun z => absurd z (by omega), fun _ => ⟨⟨by omega, by omega⟩, fun z => ?_, fun z => ⟨by omega, by omega, fun y => absurd y lv.1, fun _ _ => ⟨by rw [f 50 (by omega)]; exact hw, lv.2, ?_⟩⟩⟩⟩
    · have e := st2 z
      rw [e] at q
      exact q S hR0 hF
    · rw [f 10 (by omega), f 7 (by omega), h1, htd]
      have stay : ¬ (p.2.2 102 0 i = 0 ∧ p.2.2 95 0 i = fr ∧ p.2.2 103 0 i < td ∧ vlv σ i ≤ p.1) → wp_X11_carryOver_11 Q n S w p.1 p.2.1 ((i + 1 : Nat) : Int) := by
        intro z
        have nx := ih' S
        unfold dyS at nx
        rw [if_neg z] at nx
        exact nx hR0 hF
      refine sx_waits lv.2 b8 b5 b7 ⟨by omega, by omega⟩ ⟨by omega, by omega⟩ ⟨by omega, by omega⟩ ⟨by omega, by omega⟩ ⟨by omega, by omega⟩ (fun u => ⟨in1, fun z => absurd z (by decide), fun _ => ⟨lv.2, ?_⟩⟩) (fun u => ⟨in0, fun _ => stay (fun z => u ⟨z.1, z.2.1, z.2.2.1⟩), fun z => absurd rfl z⟩)
      unfold wp_X4_volume
      dsimp only
      rw [a1, a2, ev]
      rw [ev] at vb
      refine ⟨lv.2, lv.2, vb.1, ⟨by omega, by omega⟩, ⟨by omega, by omega⟩, fun z => stay (fun y => by omega), fun z => ⟨lv.2, lv.2, lv.2, vb.1, fun v19 e19 => ?_⟩⟩
      have yes : p.2.2 102 0 i = 0 ∧ p.2.2 95 0 i = fr ∧ p.2.2 103 0 i < td ∧ vlv σ i ≤ p.1 := ⟨u.1, u.2.1, u.2.2, by omega⟩
      have ew : wea S 1 = wea σ 1 := by
        unfold wea
        rw [f 7 (by omega), f 64 (by omega), f 65 (by omega)]
      refine sx_moveLog (V := p.2.2) (fr := fr) (to := to) (td := td) (mill := mill) (snk := snk) hR0 (by omega) u.1 u.2.1 hfr ht (by rw [f 50 (by omega)]; exact hw) (by rw [f 10 (by omega)]; exact h2) (by rw [f 10 (by omega)]; exact h0) (by rw [f 7 (by omega), f 64 (by omega), f 65 (by omega)]; exact hsk) (by rw [f 7 (by omega)]; exact htd) hb (by rw [f 3 (by omega)]; exact hmi) hmb (by rw [f 10 (by omega), ew]; exact hsn) (fun S' hR' hk' => ?_)
      have nx := ih' S'
      unfold dyS at nx
      rw [if_pos yes] at nx
      dsimp only at nx
      rw [e19]
      rw [q98] at hR'
      exact nx hR' (fun k z1 z2 z3 z4 z5 z6 => by rw [hk' k z1 z2 z3 z4 z5]; exact hF k z1 z2 z3 z4 z5 z6)
/-! the ways, one after the other -/
def snkv (σ : St) (w : Nat) : Int := if σ 120 0 w = 4 ∧ wea σ 1 = 9 then 1 else 0
def dyWr (σ : St) (m : Nat) (rm : Int) (w : Nat) (V : St) : Int × Int × St := dyR (σ 7 0 3) (σ 3 0 6) (σ 121 0 w) (σ 122 0 w) (snkv σ w) (σ 98 0) (vlv σ) (rm, 0, V) m
def dyW (σ : St) (m : Nat) (rm : Nat → Int) : Nat → Int × St
  | 0 => (0, σ)
  | w + 1 => ((dyW σ m rm w).1 + (dyWr σ m (rm w) w (dyW σ m rm w).2).2.1, (dyWr σ m (rm w) w (dyW σ m rm w).2).2.2)
theorem dyW_k {σ : St} {m k : Nat} {rm : Nat → Int} (h1 : ¬ k = 95) (h2 : ¬ k = 102) (h3 : ¬ k = 103) (h4 : ¬ k = 104) (h5 : ¬ k = 105) : ∀ w, (dyW σ m rm w).2 k = σ k := by
  intro w
  induction w with
  | zero => rfl
  | succ w ih =>
    show (dyWr σ m (rm w) w (dyW σ m rm w).2).2.2 k = σ k
    unfold dyWr
    rw [dyR_k h1 h2 h3 h4 h5]
    exact ih
theorem dyW_b {σ : St} {m : Nat} {rm : Nat → Int} (hr : ∀ w, 0 ≤ rm w ∧ rm w ≤ 200) (hv : ∀ l, l < m → 1 ≤ vlv σ l) : ∀ w : Nat, 0 ≤ (dyW σ m rm w).1 ∧ (dyW σ m rm w).1 ≤ (m : Int) * w := by
  intro w
  induction w with
  | zero => exact ⟨Int.le_refl _, by show (0 : Int) ≤ _; omega⟩
  | succ w ih =>
    have b := dyR_b (td := σ 7 0 3) (mill := σ 3 0 6) (fr := σ 121 0 w) (to := σ 122 0 w) (snk := snkv σ w) (wd := σ 98 0) (p := (rm w, 0, (dyW σ m rm w).2)) (hr w) hv m (Nat.le_refl _)
    have e : (dyW σ m rm (w + 1)).1 = (dyW σ m rm w).1 + (dyR (σ 7 0 3) (σ 3 0 6) (σ 121 0 w) (σ 122 0 w) (snkv σ w) (σ 98 0) (vlv σ) (rm w, 0, (dyW σ m rm w).2) m).2.1 := rfl
    have em : (m : Int) * ((w + 1 : Nat) : Int) = (m : Int) * w + m := by
      rw [Int.natCast_add, Int.mul_add]
      omega
    rw [e, em]
    dsimp only at b
    omega
theorem dyx_loop {n : Nat} {σ : St} {m wc : Nat} {rm : Nat → Int} {K : St → Int → Prop} {Q : Int → St → Prop} (hI : Inv n σ) (hm : σ 11 0 4 = m) (hwc : σ 11 0 6 = wc) (hr : ∀ w, 0 ≤ rm w ∧ rm w ≤ 200) (hrm : ∀ w : Nat, w < wc → ∀ f r, FcWay σ (σ 10 w 1) (σ 10 w 0) f → BarF σ f 1 r → cyv σ w r = rm w) (hv : ∀ l, l < m → 1 ≤ vlv σ l) (q : ∀ S, RelL S (dyW σ m rm wc).2 → FrD σ S → K S (dyW σ m rm wc).1) :
    ∀ (k i f : Nat) (S : St), i + k = wc → k < f → RelL S (dyW σ m rm i).2 → FrD σ S → wp_X11_day_19 K Q f S (dyW σ m rm i).1 i := by
  have hI0 := hI
  obtain ⟨a_sky, a_land, a_price, a_ints, a_logA, a_logB, a_live, a_lying, a_ways, a_crews, a_dbl, a_tape, a_law, a_ord, a_spur, a_cuts, a_cru, a_kf, a_tn⟩ := hI
  obtain ⟨⟨k1, k2, k3⟩, k4, -⟩ := id a_sky
  obtain ⟨v1, v2, v3, -⟩ := id a_live
  obtain ⟨-, m1, -⟩ := id a_land
  obtain ⟨w1, w2, w3⟩ := id a_ways
  intro k
  induction k with
  | zero =>
    intro i f S hk hf hR hF
    obtain ⟨f, rfl⟩ : ∃ n', f = n' + 1 := ⟨f - 1, by omega⟩
    have e : i = wc := by omega
    subst e
    unfold wp_X11_day_19
    rw [hF 11 (by decide) (by decide) (by decide) (by decide) (by decide) (by decide), hwc]
    exact ⟨⟨by omega, by omega⟩, ⟨by omega, by omega⟩, fun _ => q S hR hF, fun z => absurd (Int.le_refl _) z⟩
  | succ k ih =>
    intro i f S hk hf hR hF
    obtain ⟨f, rfl⟩ : ∃ n', f = n' + 1 := ⟨f - 1, by omega⟩
    have ff := fun (k : Nat) (h : k < 4 ∨ (4 < k ∧ k < 31) ∨ (37 < k ∧ k < 75) ∨ 75 < k) => hF k (by omega) (by omega) (by omega) (by omega) (by omega) (by omega)
    obtain ⟨⟨y1, y2⟩, ⟨z0, z1, z2, z3, z4⟩, z5⟩ := w2 i (by omega)
    have s11 : S 11 0 6 = wc := by rw [ff 11 (by omega), hwc]
    have s4 : S 11 0 4 = m := by rw [ff 11 (by omega), hm]
    have nx := ih (i + 1) f
    have db := dyW_b hr hv i
    have mi : (m : Int) * i ≤ 300 * 40 := by
      have a := Int.mul_le_mul (show (m : Int) ≤ 300 by omega) (show (i : Int) ≤ 40 by omega) (by omega) (show (0 : Int) ≤ 300 by decide)
      omega
    have hY := hR.2.2.2.1
    obtain ⟨fr, efr⟩ : ∃ fr : Nat, σ 121 0 i = fr := ⟨(σ 121 0 i).toNat, by omega⟩
    obtain ⟨to, eto⟩ : ∃ to : Nat, σ 122 0 i = to := ⟨(σ 122 0 i).toNat, by omega⟩
    have yl := hY fr (by omega)
    rw [s4] at yl
    have li := lies_in (state := (dyW σ m rm i).2 102 0) (cell := (dyW σ m rm i).2 95 0) (c := (fr : Int)) (m : Int).toNat
    have es : dyW σ m rm (i + 1) = ((dyW σ m rm i).1 + (dyWr σ m (rm i) i (dyW σ m rm i).2).2.1, (dyWr σ m (rm i) i (dyW σ m rm i).2).2.2) := rfl
    unfold wp_X11_day_19 wp_X11_day_61
    rw [s11, Int.toNat_natCast, ff 78 (by omega), ff 50 (by omega), ff 10 (by omega), z1, efr, Int.toNat_natCast, show ((i : Int) + 1) = ((i + 1 : Nat) : Int) by omega]
    refine ⟨⟨by omega, by omega⟩, ⟨by omega, by omega⟩, fun z => absurd z (by omega), fun _ => ⟨by omega, by omega, fun z => absurd z y1, fun _ _ => ⟨y2, by omega, by omega, ⟨by omega, by omega⟩, fun z => ?_, fun z => ?_⟩⟩⟩
    · have en : dyWr σ m (rm i) i (dyW σ m rm i).2 = (rm i, 0, (dyW σ m rm i).2) := by
        unfold dyWr
        refine dyR_none (m := m) (fun l hl => ?_) m (Nat.le_refl _)
        rw [efr]
        exact li.2.2 (by omega) l (by omega)
      have e2 : dyW σ m rm (i + 1) = dyW σ m rm i := by
        rw [es, en]
        dsimp only
        rw [Int.add_zero]
      have nx2 := nx S (by omega) (by omega)
      rw [e2] at nx2
      exact nx2 hR hF
    · unfold wp_X11_carryOver
      refine qx_carryNow hI0 ⟨fun k hk => ff k (by omega), by rw [ff 50 (by omega)]⟩ (by omega) (fun fc r hfc hr1 => ⟨m + 1, ?_⟩)
      rw [hrm i (by omega) fc r hfc hr1]
      have fS : FrD σ (sta S 75 0 fc) := fun k u1 u2 u3 u4 u5 u6 => by rw [ra_ne u6]; exact hF k u1 u2 u3 u4 u5 u6
      have hR2 : RelL (sta S 75 0 fc) (dyW σ m rm i).2 := by
        unfold RelL
        simp (decide := true) only [ra_ne, not_false_eq_true]
        exact hR
      have e31 : dyR (σ 7 0 3) (σ 3 0 6) (fr : Int) (to : Int) (snkv σ i) (σ 98 0) (vlv σ) (rm i, 0, (dyW σ m rm i).2) m = dyWr σ m (rm i) i (dyW σ m rm i).2 := by
        unfold dyWr
        rw [efr, eto]
      refine co_loop (σ := σ) (V0 := (dyW σ m rm i).2) (fr := fr) (to := to) (m := m) (snk := snkv σ i) (r0 := rm i) (n0 := 0) hm (by omega) (dyW_k (by decide) (by decide) (by decide) (by decide) (by decide) i) (dyW_k (by decide) (by decide) (by decide) (by decide) (by decide) i) (hr i) hv ⟨by decide, by decide⟩ (by omega) (by omega) y2 (by rw [z1]; exact efr) (by rw [z2]; exact eto) (by rw [z0]; exact ⟨by omega, by omega⟩) (SkyX.of a_sky) rfl (by omega) rfl m1 ?_ (fun S' hR' hF' => ?_) m 0 (m + 1) (sta S 75 0 fc) (by omega) (by omega) hR2 fS
      · unfold snkv
        rw [z0]
        by_cases c : σ 120 0 i = 4 ∧ wea σ 1 = 9
        · rw [if_pos c]
          exact ⟨fun _ => c, fun _ => rfl⟩
        · rw [if_neg c]
          exact ⟨fun y => absurd y (by decide), fun y => absurd y c⟩
      · rw [e31] at hR' ⊢
        intro v ev
        subst ev
        have nx2 := nx S' (by omega) (by omega)
        rw [es] at nx2
        exact nx2 hR' hF'
