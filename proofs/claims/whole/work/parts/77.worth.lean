/-! worth: the pieces of a row -/
/-- what the first m pieces are worth -/
def wsum (p tp : Nat → Int) (s k : Int) (f : Nat → Int) (m : Nat) : Int := sumv (fun i => p (f i).toNat * wdv tp s k (sumv f (i + 1))) m
theorem figs_b {x : Int} {m : Nat} {f : Nat → Int} (hg : goodR x m) (hf : figs x m f) : ∀ i, i < m → 2 ≤ f i ∧ f i ≤ 6 := by
  intro i hi
  have e := hf (m - 1 - i) (by omega)
  rw [show m - 1 - (m - 1 - i) = i by omega] at e
  rw [e]
  exact hg _ (by omega)
theorem sum_fb {f : Nat → Int} {m : Nat} (h : ∀ i, i < m → 2 ≤ f i ∧ f i ≤ 6) : ∀ i, i ≤ m → 2 * (i : Int) ≤ sumv f i ∧ sumv f i ≤ 6 * i := by
  intro i
  induction i with
  | zero => intro _; exact ⟨Int.le_refl _, Int.le_refl _⟩
  | succ i ih =>
    intro hi
    have a := ih (by omega)
    have b := h i (by omega)
    show _ ≤ sumv f i + f i ∧ sumv f i + f i ≤ _
    omega
theorem row_loop {σ : St} {s k : Int} {m : Nat} {K : St → Int → Int → Int → Prop} {Q : Int → St → Prop} (hs : 0 ≤ s ∧ s ≤ 3) (hk : 0 ≤ k ∧ k ≤ 3) (ht : ∀ i, i < 4 → 1 ≤ σ 33 0 i ∧ σ 33 0 i ≤ 3) (hm : m ≤ 5) (em : σ 0 0 4 = m) (hf : ∀ i, i < m → 2 ≤ σ 23 0 i ∧ σ 23 0 i ≤ 6) (q : K σ k (wsum (σ 20 0) (σ 33 0) s k (σ 23 0) m) (sumv (σ 23 0) m)) :
    ∀ (c i n : Nat), i + c = m → c < n → wp_X0_chooseRow_20 K Q n σ s k (wsum (σ 20 0) (σ 33 0) s k (σ 23 0) i) (sumv (σ 23 0) i) i := by
  intro c
  induction c with
  | zero =>
    intro i n hi hn
    obtain ⟨n, rfl⟩ : ∃ n', n = n' + 1 := ⟨n - 1, by omega⟩
    unfold wp_X0_chooseRow_20
    rw [show i = m by omega]
    exact ⟨⟨by omega, by omega⟩, ⟨by omega, by omega⟩, fun _ => q, fun z => absurd (by omega) z⟩
  | succ c ih =>
    intro i n hi hn
    obtain ⟨n, rfl⟩ : ∃ n', n = n' + 1 := ⟨n - 1, by omega⟩
    have nx := ih (i + 1) n (by omega) (by omega)
    have fb := hf i (by omega)
    have sb := sum_fb hf (i + 1) (by omega)
    unfold wp_X0_chooseRow_20
    rw [Int.toNat_natCast, show ((i : Int) + 1) = ((i + 1 : Nat) : Int) by omega]
    refine ⟨⟨by omega, by omega⟩, ⟨by omega, by omega⟩, fun z => absurd z (by omega), fun _ => ⟨by omega, by omega, fun v e => ⟨by omega, by omega, by omega, by omega, ?_⟩⟩⟩
    have e2 : v = sumv (σ 23 0) (i + 1) := e
    rw [e2]
    refine sx_wideAt hs hk ht (by omega) (fun v2 e3 => ?_)
    rw [e3]
    exact nx
/-- a row is chosen, of the class -/
theorem sx_chooseRow {σ : St} {s k x : Int} {Q : Int → St → Prop} (hs : 0 ≤ s ∧ s ≤ 3) (hk : 0 ≤ k ∧ k ≤ 3) (ht : ∀ i, i < 4 → 1 ≤ σ 33 0 i ∧ σ 33 0 i ≤ 3) (hx : inR x)
    (q1 : 1 ≤ ndg 10 x → ndg 10 x ≤ 5 → goodR x (ndg 10 x).toNat → ∀ f, figs x (ndg 10 x).toNat f → Q (if sumv f (ndg 10 x).toNat ≤ 4 + 2 * k then wsum (σ 20 0) (σ 33 0) s k f (ndg 10 x).toNat else -1) (st (sta (st σ 0 0 4 0) 23 0 f) 0 0 4 (ndg 10 x)))
    (q0 : ¬ (1 ≤ ndg 10 x ∧ ndg 10 x ≤ 5 ∧ goodR x (ndg 10 x).toNat) → ∀ f, Q (-1) (sta (st σ 0 0 4 0) 23 0 f)) : wp_X0_chooseRow σ s k x Q := by
  unfold wp_X0_chooseRow
  refine sx_takeFigures hx (fun a b hg f hf => ⟨in1, fun _ => ⟨7, ?_⟩, fun z => absurd z (by decide)⟩) (fun z f => ⟨in0, fun y => absurd rfl y, fun _ => q0 z f⟩)
  have q := q1 a b hg f hf
  obtain ⟨τ, eτ⟩ : ∃ τ : St, τ = st (sta (st σ 0 0 4 0) 23 0 f) 0 0 4 (ndg 10 x) := ⟨_, rfl⟩
  rw [← eτ] at q ⊢
  have t20 : τ 20 = σ 20 := by rw [eτ, rs_ne (by decide), ra_ne (by decide), rs_ne (by decide)]
  have t33 : τ 33 = σ 33 := by rw [eτ, rs_ne (by decide), ra_ne (by decide), rs_ne (by decide)]
  have t23 : τ 23 0 = f := by rw [eτ, rs_ne (by decide), ra_eq]
  have t4 : τ 0 0 4 = (((ndg 10 x).toNat : Nat) : Int) := by rw [eτ, rs_eq, up_eq]; omega
  have fb := figs_b hg hf
  have sb := sum_fb fb (ndg 10 x).toNat (by omega)
  refine row_loop hs hk (by rw [t33]; exact ht) (m := (ndg 10 x).toNat) (by omega) t4 (by rw [t23]; exact fb) ?_ (ndg 10 x).toNat 0 7 (by omega) (by omega)
  rw [t20, t33, t23]
  refine ⟨⟨by omega, by omega⟩, ⟨by omega, by omega⟩, fun c => ?_, fun c => ?_⟩
  · rw [if_neg (by omega)] at q
    exact q
  · rw [if_pos (by omega)] at q
    exact q
theorem sum_front (f : Nat → Int) (m : Nat) : sumv f (m + 1) = f 0 + sumv (fun i => f (i + 1)) m := by
  rw [show m + 1 = 1 + m by omega, sumv_add]
  show 0 + f 0 + sumv (fun i => f (1 + i)) m = _
  rw [Int.zero_add]
  congr 1
  exact sumv_congr (fun i _ => by rw [Nat.add_comm])
theorem sum_rev {f g : Nat → Int} {m : Nat} (h : ∀ k, k < m → f (m - 1 - k) = g k) : sumv f m = sumv g m := by
  induction m generalizing f with
  | zero => rfl
  | succ m ih =>
    rw [sum_front]
    have e := ih (f := fun i => f (i + 1)) (fun k hk => by
      have := h k (by omega)
      rw [show m + 1 - 1 - k = m - 1 - k + 1 by omega] at this
      exact this)
    have e2 := h m (by omega)
    rw [show m + 1 - 1 - m = 0 by omega] at e2
    rw [e, e2]
    show g m + sumv g m = sumv g m + g m
    omega
theorem gsum_b {x : Int} {m : Nat} (i : Nat) : 0 ≤ sumv (fun k => dv x k % 10) i ∧ sumv (fun k => dv x k % 10) i ≤ 9 * i := by
  induction i with
  | zero => exact ⟨Int.le_refl _, Int.le_refl _⟩
  | succ i ih =>
    show 0 ≤ sumv (fun k => dv x k % 10) i + dv x i % 10 ∧ sumv (fun k => dv x k % 10) i + dv x i % 10 ≤ _
    omega
theorem lay_bad {σ : St} {k m sm x6 x8 : Int} {n : Nat} {Q : Int → St → Prop} (h8 : inR x8) (q : Q 0 (st σ 12 0 15 0)) : wp_X12_lays_58 (wp_X12_lays_114 Q) Q (n + 1) σ k m sm x6 0 x8 := by
  have key : wp_X12_lays_114 Q σ k m sm 0 := by
    unfold wp_X12_lays_114 wp_X12_lays_126
    exact ⟨in0, fun _ s e => ⟨in0, fun _ => by rw [e]; exact q, fun z => absurd rfl z⟩, fun z => absurd rfl z⟩
  unfold wp_X12_lays_58
  exact ⟨h8, fun _ => key, fun _ => ⟨in0, fun _ => key, fun z => absurd rfl z⟩⟩
theorem lay_loop {σ : St} {x k : Int} {m : Nat} {Q : Int → St → Prop} (hx : 0 ≤ x ∧ x < 2147483648) (hk : 0 ≤ k ∧ k ≤ 3) (hm : m ≤ 5) (q1 : goodR x m → ∀ f, figs x m f → Q (if sumv f m ≤ 4 + 2 * k then 1 else 0) (st (sta σ 93 0 f) 12 0 15 m)) (q0 : ¬ goodR x m → ∀ f, Q 0 (st (sta σ 93 0 f) 12 0 15 0)) :
    ∀ (c n : Nat) (f : Nat → Int), c ≤ m → c + 1 < n → goodR x (m - c) → (∀ k, k < m - c → f (m - 1 - k) = dv x k % 10) → wp_X12_lays_58 (wp_X12_lays_114 Q) Q n (sta σ 93 0 f) k m (sumv (fun k => dv x k % 10) (m - c)) (dv x (m - c)) 1 ((c : Int) - 1) := by
  intro c
  induction c with
  | zero =>
    intro n f hc hn hg hf
    obtain ⟨n, rfl⟩ : ∃ n', n = n' + 1 := ⟨n - 1, by omega⟩
    have gb := gsum_b (x := x) (m := m) (m - 0)
    have q := q1 hg f hf
    have er : sumv f m = sumv (fun k => dv x k % 10) m := sum_rev hf
    rw [er] at q
    unfold wp_X12_lays_58 wp_X12_lays_114 wp_X12_lays_126 wp_X12_unitsOf
    refine ⟨⟨by omega, by omega⟩, fun _ => ⟨in1, fun z => absurd z (by decide), fun _ s e => ⟨in1, fun z => absurd z (by decide), fun _ => ⟨⟨by omega, by omega⟩, ⟨by omega, by omega⟩, fun d => ?_, fun d => ?_⟩⟩⟩, fun z => absurd (by omega) z⟩
    · rw [Nat.sub_zero] at d
      rw [if_neg (by omega)] at q
      rw [e]
      exact q
    · rw [Nat.sub_zero] at d
      rw [if_pos (by omega)] at q
      rw [e]
      exact q
  | succ c ih =>
    intro n f hc hn hg hf
    obtain ⟨n, rfl⟩ : ∃ n', n = n' + 1 := ⟨n - 1, by omega⟩
    obtain ⟨n, rfl⟩ : ∃ n', n = n' + 1 := ⟨n - 1, by omega⟩
    have db := dv_b hx.1 hx.2 (m - (c + 1))
    have ds := dv_s x (m - (c + 1))
    rw [show m - (c + 1) + 1 = m - c by omega] at ds
    have ss : sumv (fun k => dv x k % 10) (m - c) = sumv (fun k => dv x k % 10) (m - (c + 1)) + dv x (m - (c + 1)) % 10 := by
      rw [show m - c = m - (c + 1) + 1 by omega]
      rfl
    rw [show n + 1 + 1 = (n + 1) + 1 from rfl]
    unfold wp_X12_lays_58
    refine ⟨⟨by omega, by omega⟩, fun z => absurd z (by omega), fun _ => ⟨in1, fun z => absurd z (by decide), fun _ => ⟨⟨by omega, by omega⟩, fun v e => ⟨⟨by omega, by omega⟩, fun v2 e2 => ?_⟩⟩⟩⟩
    rw [tmn db.1] at e
    rw [tdn db.1, ← ds] at e2
    refine wi_m ⟨by omega, by omega⟩ ⟨by decide, by decide⟩ ⟨by decide, by decide⟩ (fun a b => ⟨by omega, by omega, fun s1 e1 v3 e3 => ?_⟩) (fun a => ⟨by omega, by omega, fun s1 e1 v3 e3 => ?_⟩)
    · rw [e1, st_stae, e2, e3, e, ← ss, show Int.toNat (((c + 1 : Nat) : Int) - 1) = c by omega, show (((c + 1 : Nat) : Int) - 1) + (-1) = (c : Int) - 1 by omega]
      refine ih (n + 1) _ (by omega) (by omega) (fun k hk => ?_) (fun k hk => ?_)
      · by_cases y : k = m - (c + 1)
        · rw [y]
          omega
        · exact hg k (by omega)
      · by_cases y : k = m - (c + 1)
        · rw [y, show m - 1 - (m - (c + 1)) = c by omega, up_eq]
        · rw [up_ne (by omega)]
          exact hf k (by omega)
    · rw [e1, st_stae]
      exact lay_bad ⟨by omega, by omega⟩ (q0 (fun z => by have := z (m - (c + 1)) (by omega); omega) _)
/-- a row is laid, of the reference -/
theorem sm_laysR {σ : St} {s k x : Int} {Q : Int → St → Prop} (hk : 0 ≤ k ∧ k ≤ 3) (hx : inR x)
    (q1 : 1 ≤ ndg 10 x → ndg 10 x ≤ 5 → goodR x (ndg 10 x).toNat → ∀ f, figs x (ndg 10 x).toNat f → Q (if sumv f (ndg 10 x).toNat ≤ 4 + 2 * k then 1 else 0) (st (sta (st σ 12 0 15 0) 93 0 f) 12 0 15 (ndg 10 x)))
    (q0 : ¬ (1 ≤ ndg 10 x ∧ ndg 10 x ≤ 5 ∧ goodR x (ndg 10 x).toNat) → ∀ f, Q 0 (st (sta (st σ 12 0 15 0) 93 0 f) 12 0 15 0)) : wp_X12_lays σ s k x Q := by
  have nb := ndg_b 10 x
  intro s1 e1
  have hs : sta s1 93 0 (s1 93 0) = s1 := sta_self
  refine ⟨11, figm_loop 10 11 x 0 (by have := hx.2; omega) hx (by omega) ?_⟩
  rw [Int.zero_add]
  have xz : x ≤ 0 → ndg 10 x = 0 := fun z => by
    unfold ndg
    rw [if_pos z]
  have xz2 : ¬ x ≤ 0 → 1 ≤ ndg 10 x := fun z => by
    have b := ndg_b 9 (x / 10)
    have e : ndg 10 x = if x ≤ 0 then 0 else 1 + ndg 9 (x / 10) := rfl
    rw [e, if_neg z]
    omega
  have bad : ¬ (1 ≤ ndg 10 x ∧ ndg 10 x ≤ 5) → wp_X12_lays_50 Q s1 k (ndg 10 x) 0 x 0 := by
    intro z v e
    have q := q0 (fun y => z ⟨y.1, y.2.1⟩) (s1 93 0)
    rw [← e1, hs] at q
    exact ⟨1, lay_bad ⟨by omega, by omega⟩ q⟩
  unfold wp_X12_lays_29 wp_X12_lays_49
  refine ⟨hx, fun c => bad (fun z => by have := xz c; omega), fun c => ⟨⟨by omega, by omega⟩, fun d => bad (fun z => by omega), fun d v e => ⟨11, ?_⟩⟩⟩
  have d1 := xz2 c
  have E := lay_loop (σ := s1) (x := x) (k := k) (m := (ndg 10 x).toNat) (Q := Q) ⟨by omega, hx.2⟩ hk (by omega) (fun hg f hf => by
    have q := q1 d1 (by omega) hg f hf
    rw [← e1, show ndg 10 x = (((ndg 10 x).toNat : Nat) : Int) by omega] at q
    exact q) (fun hg f => by
    have q := q0 (fun z => hg z.2.2) f
    rw [← e1] at q
    exact q) (ndg 10 x).toNat 11 (s1 93 0) (by omega) (by omega) (fun k hk => absurd hk (by omega)) (fun k hk => absurd hk (by omega))
  rw [hs, Nat.sub_self, show dv x 0 = x from rfl, show sumv (fun k => dv x k % 10) 0 = 0 from rfl, show (((ndg 10 x).toNat : Nat) : Int) = ndg 10 x by omega, ← e] at E
  exact E
theorem worm_loop {σ : St} {s k : Int} {m : Nat} {Q : Int → St → Prop} (hs : 0 ≤ s ∧ s ≤ 3) (hk : 0 ≤ k ∧ k ≤ 3) (ht : ∀ i, i < 4 → 1 ≤ σ 87 0 i ∧ σ 87 0 i ≤ 3) (hm : m ≤ 5) (em : σ 12 0 15 = m) (hf : ∀ i, i < m → 2 ≤ σ 93 0 i ∧ σ 93 0 i ≤ 6) (q : Q (wsum (σ 92 0) (σ 87 0) s k (σ 93 0) m) σ) :
    ∀ (c i n : Nat), i + c = m → c < n → wp_X12_worth_34 Q n σ s k (sumv (σ 93 0) i) (wsum (σ 92 0) (σ 87 0) s k (σ 93 0) i) i := by
  intro c
  induction c with
  | zero =>
    intro i n hi hn
    obtain ⟨n, rfl⟩ : ∃ n', n = n' + 1 := ⟨n - 1, by omega⟩
    unfold wp_X12_worth_34
    rw [show i = m by omega]
    exact ⟨⟨by omega, by omega⟩, ⟨by omega, by omega⟩, fun _ => q, fun z => absurd (by omega) z⟩
  | succ c ih =>
    intro i n hi hn
    obtain ⟨n, rfl⟩ : ∃ n', n = n' + 1 := ⟨n - 1, by omega⟩
    have nx := ih (i + 1) n (by omega) (by omega)
    have fb := hf i (by omega)
    have sb := sum_fb hf (i + 1) (by omega)
    unfold wp_X12_worth_34
    rw [Int.toNat_natCast, show ((i : Int) + 1) = ((i + 1 : Nat) : Int) by omega]
    refine ⟨⟨by omega, by omega⟩, ⟨by omega, by omega⟩, fun z => absurd z (by omega), fun _ => ⟨by omega, by omega, fun v e => ⟨by omega, by omega, by omega, by omega, ?_⟩⟩⟩
    have e2 : v = sumv (σ 93 0) (i + 1) := e
    rw [e2]
    refine sm_wideAt hs hk ht (by omega) (fun v2 e3 => ?_)
    rw [e3]
    exact nx
theorem figs_u {x : Int} {m : Nat} {f g : Nat → Int} (hf : figs x m f) (hg : figs x m g) : ∀ i, i < m → g i = f i := by
  intro i hi
  have a := hf (m - 1 - i) (by omega)
  have b := hg (m - 1 - i) (by omega)
  rw [show m - 1 - (m - 1 - i) = i by omega] at a b
  rw [a, b]
theorem wsum_congr {p tp f g : Nat → Int} {s k : Int} {m : Nat} (h : ∀ i, i < m → g i = f i) : wsum p tp s k g m = wsum p tp s k f m := by
  unfold wsum
  refine sumv_congr (fun i hi => ?_)
  rw [h i hi, sumv_congr (n := i + 1) (fun j hj => h j (by omega))]
/-- the numbers of a bucking: kept by both, read by no other call -/
theorem Inv_bk {n : Nat} {σ : St} {a b c d : Int} {f g : Nat → Int} (hI : Inv n σ) : Inv (n + 1) (st (sta (st (st (st (sta (st σ 0 0 4 a) 23 0 f) 0 0 4 b) 12 0 0 0) 12 0 15 c) 93 0 g) 12 0 15 d) := by
  obtain ⟨a_sky, a_land, a_price, a_ints, a_logA, a_logB, a_live, a_lying, a_ways, a_crews, a_dbl, a_tape, a_law, a_ord, a_spur, a_cuts, a_cru, a_kf, a_tn⟩ := hI
  unfold Inv
  simp (decide := true) only [rs_ne, rs_fn, upj_eq, upj_ne, up_eq, up_ne, ra_ne, ra_fn, upr_eq, upr_ne, not_false_eq_true, ne_eq]
  refine ⟨?_, ?_, ?_, ?_, ?_, ?_, ?_, ?_, ?_, ?_, ?_, ?_, ?_, ?_, ?_, ?_, ?_, ?_, ?_⟩
  · exact a_sky
  · exact a_land
  · exact a_price
  · exact I_ints_up a_ints
  · exact a_logA
  · exact a_logB
  · exact a_live
  · exact a_lying
  · exact a_ways
  · exact a_crews
  · exact a_dbl
  · exact a_tape
  · exact a_law
  · exact a_ord
  · exact a_spur
  · exact a_cuts
  · exact a_cru
  · exact a_kf
  · exact a_tn
theorem Inv_bk0 {n : Nat} {σ : St} {a c d : Int} {f g : Nat → Int} (hI : Inv n σ) : Inv (n + 1) (st (sta (st (st (sta (st σ 0 0 4 a) 23 0 f) 12 0 0 0) 12 0 15 c) 93 0 g) 12 0 15 d) := by
  obtain ⟨a_sky, a_land, a_price, a_ints, a_logA, a_logB, a_live, a_lying, a_ways, a_crews, a_dbl, a_tape, a_law, a_ord, a_spur, a_cuts, a_cru, a_kf, a_tn⟩ := hI
  unfold Inv
  simp (decide := true) only [rs_ne, rs_fn, upj_eq, upj_ne, up_eq, up_ne, ra_ne, ra_fn, upr_eq, upr_ne, not_false_eq_true, ne_eq]
  refine ⟨?_, ?_, ?_, ?_, ?_, ?_, ?_, ?_, ?_, ?_, ?_, ?_, ?_, ?_, ?_, ?_, ?_, ?_, ?_⟩
  · exact a_sky
  · exact a_land
  · exact a_price
  · exact I_ints_up a_ints
  · exact a_logA
  · exact a_logB
  · exact a_live
  · exact a_lying
  · exact a_ways
  · exact a_crews
  · exact a_dbl
  · exact a_tape
  · exact a_law
  · exact a_ord
  · exact a_spur
  · exact a_cuts
  · exact a_cru
  · exact a_kf
  · exact a_tn
theorem op_worth {n : Nat} {σ : St} {x1 x2 x3 : Int} (hI : Inv n σ) (h1 : inR x1) (h2 : inR x2) (h3 : inR x3) : wp_X11_worth σ x1 x2 x3 (fun r σ1 => wp_X12_worth σ1 x1 x2 x3 (fun r2 σ2 => r2 = r ∧ Inv (n + 1) σ2)) := by
  have hI0 := hI
  obtain ⟨a_sky, a_land, a_price, a_ints, a_logA, a_logB, a_live, a_lying, a_ways, a_crews, a_dbl, a_tape, a_law, a_ord, a_spur, a_cuts, a_cru, a_kf, a_tn⟩ := hI
  obtain ⟨⟨l1, l2, l3, l4, l5, l6⟩, lm, lh, ls, lt, lg, lp⟩ := id a_land
  obtain ⟨p1, p2⟩ := id a_price
  have hno : ¬ (0 ≤ x1 ∧ x1 ≤ 3 ∧ 0 ≤ x2 ∧ x2 ≤ 3) → wp_X12_worth σ x1 x2 x3 (fun r2 σ2 => r2 = -1 ∧ Inv (n + 1) σ2) := by
    intro hc τ eτ
    have hi : Inv (n + 1) τ := by rw [eτ]; exact Inv_t hI0
    unfold wp_X12_isStem
    refine wi_m h1 in0 ⟨by decide, by decide⟩ (fun a b => ⟨in1, fun c => absurd c (by decide), fun _ => ?_⟩) (fun a => ⟨in0, fun _ => ⟨in0, fun _ => ⟨rfl, hi⟩, fun c => absurd rfl c⟩, fun c => absurd rfl c⟩)
    exact wi_m h2 in0 ⟨by decide, by decide⟩ (fun a2 b2 => absurd ⟨a, b, a2, b2⟩ hc) (fun a2 => ⟨in0, fun _ => ⟨in0, fun _ => ⟨rfl, hi⟩, fun c => absurd rfl c⟩, fun c => absurd rfl c⟩)
  unfold wp_X11_worth wp_X11_isStem
  refine wi_x h1 in0 ⟨by decide, by decide⟩ (fun a b => ⟨in1, fun c => absurd c (by decide), fun _ => ?_⟩) (fun a => ⟨in0, fun _ => ⟨in0, fun _ => hno (by omega), fun c => absurd rfl c⟩, fun c => absurd rfl c⟩)
  refine wi_x h2 in0 ⟨by decide, by decide⟩ (fun a2 b2 => ⟨in1, fun c => absurd c (by decide), fun _ => ⟨in1, fun c => absurd c (by decide), fun _ => ?_⟩⟩) (fun a2 => ⟨in0, fun _ => ⟨in0, fun _ => hno (by omega), fun c => absurd rfl c⟩, fun c => absurd rfl c⟩)
  have mm : ∀ (s : St) (P : Int → St → Prop), s 12 = σ 12 → s 87 = σ 87 → s 92 = σ 92 → (1 ≤ ndg 10 x3 → ndg 10 x3 ≤ 5 → goodR x3 (ndg 10 x3).toNat → ∀ g, figs x3 (ndg 10 x3).toNat g → P (if sumv g (ndg 10 x3).toNat ≤ 4 + 2 * x2 then wsum (σ 20 0) (σ 33 0) x1 x2 g (ndg 10 x3).toNat else -1) (st (sta (st (st s 12 0 0 0) 12 0 15 0) 93 0 g) 12 0 15 (ndg 10 x3))) → (¬ (1 ≤ ndg 10 x3 ∧ ndg 10 x3 ≤ 5 ∧ goodR x3 (ndg 10 x3).toNat) → ∀ g, P (-1) (st (sta (st (st s 12 0 0 0) 12 0 15 0) 93 0 g) 12 0 15 0)) → wp_X12_worth s x1 x2 x3 P := by
    intro s P _ s87 s92 q1 q0 τ eτ
    unfold wp_X12_isStem
    refine wi_m h1 in0 ⟨by decide, by decide⟩ (fun _ _ => ⟨in1, fun c => absurd c (by decide), fun _ => ?_⟩) (fun z => absurd ⟨a, b⟩ z)
    refine wi_m h2 in0 ⟨by decide, by decide⟩ (fun _ _ => ⟨in1, fun c => absurd c (by decide), fun _ => ⟨in1, fun c => absurd c (by decide), fun _ => ?_⟩⟩) (fun z => absurd ⟨a2, b2⟩ z)
    refine sm_laysR ⟨a2, b2⟩ h3 (fun d1 d2 hg g hf => ?_) (fun z g => ⟨in0, fun y => absurd rfl y, fun _ => ?_⟩)
    · have q := q1 d1 d2 hg g hf
      rw [← eτ] at q
      obtain ⟨ρ, eρ⟩ : ∃ ρ : St, ρ = st (sta (st τ 12 0 15 0) 93 0 g) 12 0 15 (ndg 10 x3) := ⟨_, rfl⟩
      rw [← eρ] at q ⊢
      by_cases c : sumv g (ndg 10 x3).toNat ≤ 4 + 2 * x2
      · rw [if_pos c] at q ⊢
        refine ⟨in1, fun _ => ⟨7, ?_⟩, fun y => absurd y (by decide)⟩
        have t87 : ρ 87 0 = σ 33 0 := by rw [eρ, rs_ne (by decide), ra_ne (by decide), rs_ne (by decide), eτ, rs_ne (by decide), s87, l5]
        have t92 : ρ 92 0 = σ 20 0 := by rw [eρ, rs_ne (by decide), ra_ne (by decide), rs_ne (by decide), eτ, rs_ne (by decide), s92, p1]
        have t93 : ρ 93 0 = g := by rw [eρ, rs_ne (by decide), ra_eq]
        have t15 : ρ 12 0 15 = (((ndg 10 x3).toNat : Nat) : Int) := by rw [eρ, rs_eq, up_eq]; omega
        refine worm_loop ⟨a, b⟩ ⟨a2, b2⟩ (by rw [t87]; exact lp) (m := (ndg 10 x3).toNat) (by omega) t15 (by rw [t93]; exact figs_b hg hf) ?_ (ndg 10 x3).toNat 0 7 (by omega) (by omega)
        rw [t87, t92, t93]
        exact q
      · rw [if_neg c] at q ⊢
        exact ⟨in0, fun y => absurd rfl y, fun _ => q⟩
    · have q := q0 z g
      rw [← eτ] at q
      exact q
  refine sx_chooseRow ⟨a, b⟩ ⟨a2, b2⟩ lp h3 (fun d1 d2 hg f hf => ?_) (fun z f => ?_)
  · refine mm _ _ (by rw [rs_ne (by decide), ra_ne (by decide), rs_ne (by decide)]) (by rw [rs_ne (by decide), ra_ne (by decide), rs_ne (by decide)]) (by rw [rs_ne (by decide), ra_ne (by decide), rs_ne (by decide)]) (fun _ _ _ g hg2 => ⟨?_, Inv_bk hI0⟩) (fun z => absurd ⟨d1, d2, hg⟩ z)
    have u := figs_u hf hg2
    rw [wsum_congr u, sumv_congr u]
  · exact mm _ _ (by rw [ra_ne (by decide), rs_ne (by decide)]) (by rw [ra_ne (by decide), rs_ne (by decide)]) (by rw [ra_ne (by decide), rs_ne (by decide)]) (fun d1 d2 hg => absurd ⟨d1, d2, hg⟩ z) (fun _ g => ⟨rfl, Inv_bk0 hI0⟩)
