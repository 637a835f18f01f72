/-! row and write, and what the reference tells of each -/
def zf (f : Nat → Int) (b k : Nat) : Nat → Int := fun i => if b ≤ i ∧ i < b + k then 0 else f i
theorem zf_0 {f : Nat → Int} {b : Nat} : zf f b 0 = f := by
  funext i
  unfold zf
  rw [if_neg (by omega)]
theorem zf_s {f : Nat → Int} {b k : Nat} : up (zf f b k) (b + k) 0 = zf f b (k + 1) := by
  funext i
  unfold up zf
  by_cases c : i = b + k
  · rw [if_pos c, if_pos (by omega)]
  · rw [if_neg c]
    by_cases d : b ≤ i ∧ i < b + k
    · rw [if_pos d, if_pos (by omega)]
    · rw [if_neg d, if_neg (by omega)]
theorem zf_all {P : Int → Prop} {f : Nat → Int} {b k : Nat} (h : ∀ i, P (f i)) (h0 : P 0) : ∀ i, P (zf f b k i) := by
  intro i
  unfold zf
  split
  · exact h0
  · exact h i
theorem begin_loop {σ : St} {r : Nat} {Q : St → Prop} (hr : r < 4) (q : Q (sta (sta σ 26 0 (zf (σ 26 0) (40 * r) 40)) 27 0 (zf (σ 27 0) (40 * r) 40))) : ∀ (k i n : Nat), i + k = 40 → k < n → wp_X2_begin_17 Q n (sta (sta σ 26 0 (zf (σ 26 0) (40 * r) i)) 27 0 (zf (σ 27 0) (40 * r) i)) r i := by
  intro k
  induction k with
  | zero =>
    intro i n hi hn
    obtain ⟨n, rfl⟩ : ∃ n', n = n' + 1 := ⟨n - 1, by omega⟩
    unfold wp_X2_begin_17
    rw [show i = 40 by omega]
    exact ⟨⟨by omega, by omega⟩, fun _ => q, fun z => absurd (by omega) z⟩
  | succ k ih =>
    intro i n hi hn
    obtain ⟨n, rfl⟩ : ∃ n', n = n' + 1 := ⟨n - 1, by omega⟩
    unfold wp_X2_begin_17
    refine ⟨⟨by omega, by omega⟩, fun z => absurd z (by omega), fun _ => ⟨by omega, by omega, fun s1 e1 => ⟨by omega, by omega, fun s2 e2 => ?_⟩⟩⟩
    rw [show Int.toNat ((r : Int) * 40 + (i : Int)) = 40 * r + i by omega, st_stac (by decide), st_stae, zf_s] at e1
    rw [e1, show Int.toNat ((r : Int) * 40 + (i : Int)) = 40 * r + i by omega, st_stae, zf_s] at e2
    rw [e2, show ((i : Int) + 1) = ((i + 1 : Nat) : Int) by omega]
    exact ih (i + 1) n (by omega) (by omega)
theorem rowm_loop {σ : St} {r : Nat} {Q : Int → St → Prop} (hr : r < 4) (q : Q 1 (sta (sta σ 154 0 (zf (σ 154 0) (40 * r) 40)) 155 0 (zf (σ 155 0) (40 * r) 40))) : ∀ (k i n : Nat), i + k = 40 → k < n → wp_X12_row_43 Q n (sta (sta σ 154 0 (zf (σ 154 0) (40 * r) i)) 155 0 (zf (σ 155 0) (40 * r) i)) r i := by
  intro k
  induction k with
  | zero =>
    intro i n hi hn
    obtain ⟨n, rfl⟩ : ∃ n', n = n' + 1 := ⟨n - 1, by omega⟩
    unfold wp_X12_row_43
    rw [show i = 40 by omega]
    exact ⟨⟨by omega, by omega⟩, fun _ => q, fun z => absurd (by omega) z⟩
  | succ k ih =>
    intro i n hi hn
    obtain ⟨n, rfl⟩ : ∃ n', n = n' + 1 := ⟨n - 1, by omega⟩
    unfold wp_X12_row_43
    refine ⟨⟨by omega, by omega⟩, fun z => absurd z (by omega), fun _ => ⟨by omega, by omega, fun s1 e1 => ⟨by omega, by omega, fun s2 e2 => ?_⟩⟩⟩
    rw [show Int.toNat (40 * (r : Int) + (i : Int)) = 40 * r + i by omega, st_stac (by decide), st_stae, zf_s] at e1
    rw [e1, show Int.toNat (40 * (r : Int) + (i : Int)) = 40 * r + i by omega, st_stae, zf_s] at e2
    rw [e2, show ((i : Int) + 1) = ((i + 1 : Nat) : Int) by omega]
    exact ih (i + 1) n (by omega) (by omega)
theorem op_row {n : Nat} {σ : St} {x1 x2 x3 : Int} (hI : Inv n σ) (h1 : inR x1) (hb : x2 = 0 ∨ x2 = 1) (h3 : inR x3) : wp_X11_row σ x1 x2 x3 (fun r σ1 => wp_X12_row σ1 x1 x2 x3 (fun r2 σ2 => r2 = r ∧ Inv (n + 1) σ2)) := by
  have hI0 := hI
  obtain ⟨a_sky, a_land, a_price, a_ints, a_logA, a_logB, a_live, a_lying, a_ways, a_crews, a_dbl, a_tape, a_law, a_ord, a_spur, a_cuts, a_cru, a_kf, a_tn⟩ := hI
  obtain ⟨⟨c1, c2, c3, c4⟩, cl, cf, ce, ch⟩ := id a_cru
  have hno : ¬ (0 ≤ x1 ∧ x1 ≤ 3 ∧ 0 ≤ x3 ∧ x3 ≤ 40) → wp_X12_row σ x1 x2 x3 (fun r2 σ2 => r2 = 0 ∧ Inv (n + 1) σ2) := by
    intro hc τ eτ
    have hi : Inv (n + 1) τ := by rw [eτ]; exact Inv_t hI0
    refine wi_m h1 in0 ⟨by decide, by decide⟩ (fun a b => ⟨in1, fun c => absurd c (by decide), fun _ => ?_⟩) (fun a => ⟨in0, fun _ => ⟨rfl, hi⟩, fun c => absurd rfl c⟩)
    exact wi_m h3 in0 ⟨by decide, by decide⟩ (fun a2 b2 => absurd ⟨a, b, a2, b2⟩ hc) (fun a2 => ⟨in0, fun c => absurd rfl c, fun _ => ⟨rfl, hi⟩⟩)
  unfold wp_X11_row wp_X2_begin
  refine wi_x h1 in0 ⟨by decide, by decide⟩ (fun a b => ⟨in1, fun c => absurd c (by decide), fun _ => ?_⟩) (fun a => ⟨in0, fun _ => hno (by omega), fun c => absurd rfl c⟩)
  refine wi_x h3 in0 ⟨by decide, by decide⟩ (fun a2 b2 => ⟨in1, fun _ => ?_, fun c => absurd c (by decide)⟩) (fun a2 => ⟨in0, fun c => absurd rfl c, fun _ => hno (by omega)⟩)
  obtain ⟨r, er⟩ : ∃ r : Nat, (r : Int) = x1 := ⟨x1.toNat, by omega⟩
  have er2 : x1.toNat = r := by omega
  have hr4 : r < 4 := by omega
  rw [← er]
  refine ⟨by omega, by omega, fun s1 e1 => ⟨by omega, by omega, hb, fun s2 e2 => ⟨42, ?_⟩⟩⟩
  rw [Int.toNat_natCast] at e1 e2
  have fin : ∀ s3 : St, s3 = (sta (sta s2 26 0 (zf (s2 26 0) (40 * r) 40)) 27 0 (zf (s2 27 0) (40 * r) 40)) → wp_X12_row s3 (r : Int) x2 x3 (fun r2 σ2 => r2 = 1 ∧ Inv (n + 1) σ2) := by
    intro s3 e3 τ eτ
    refine wi_m ⟨by omega, by omega⟩ in0 ⟨by decide, by decide⟩ (fun _ _ => ⟨in1, fun c => absurd c (by decide), fun _ => ?_⟩) (fun z => absurd (by omega) z)
    refine wi_m h3 in0 ⟨by decide, by decide⟩ (fun _ _ => ⟨in1, fun _ => ⟨by omega, by omega, fun t1 f1 => ⟨by omega, by omega, hb, fun t2 f2 => ⟨42, ?_⟩⟩⟩, fun c => absurd c (by decide)⟩) (fun z => absurd ⟨a2, b2⟩ z)
    rw [Int.toNat_natCast] at f1 f2
    have e := rowm_loop (σ := t2) (r := r) (Q := fun r2 σ2 => r2 = 1 ∧ Inv (n + 1) σ2) hr4 ⟨rfl, ?_⟩ 40 0 42 (by omega) (by omega)
    · rw [zf_0, zf_0, sta_self, sta_self] at e
      exact e
    · rw [f2, f1, eτ, e3, e2, e1]
      unfold Inv
      simp (decide := true) only [rs_ne, rs_fn, upj_eq, upj_ne, up_eq, up_ne, ra_ne, ra_fn, upr_eq, upr_ne, not_false_eq_true, ne_eq]
      refine ⟨?_, ?_, ?_, ?_, ?_, ?_, ?_, ?_, ?_, ?_, ?_, ?_, ?_, ?_, ?_, ?_, ?_, ?_, ?_⟩
      · exact a_sky
      · exact a_land
      · exact a_price
      · exact I_ints_up a_ints
      · exact a_logA
      · exact a_logB
      · exact a_live
      · exact a_lying
      · exact a_ways
      · exact a_crews
      · exact a_dbl
      · exact a_tape
      · exact a_law
      · exact a_ord
      · exact a_spur
      · exact a_cuts
      · exact ⟨⟨by rw [c1], by rw [c2], by rw [c3], by rw [c4]⟩, fun i hi => by unfold up; split; exact ⟨by omega, by omega⟩; exact cl i hi, up_all (P := fun x => 0 ≤ x ∧ x ≤ 1) cf (by omega), zf_all (P := fun x => -2000000 ≤ x ∧ x ≤ 2000000) ce (by omega), zf_all (P := fun x => 0 ≤ x ∧ x ≤ 1) ch (by omega)⟩
      · exact a_kf
      · exact a_tn
  have e := begin_loop (σ := s2) (r := r) (Q := fun σ_7 => wp_X12_row σ_7 (r : Int) x2 x3 (fun r2 σ2 => r2 = 1 ∧ Inv (n + 1) σ2)) hr4 (fin _ rfl) 40 0 42 (by omega) (by omega)
  rw [zf_0, zf_0, sta_self, sta_self] at e
  exact e
theorem i2s_b (x : Int) : -32768 ≤ i_i2s x ∧ i_i2s x ≤ 32767 := by
  unfold i_i2s
  rw [Int16.toInt_toInt32]
  have h1 := Int16.le_toInt (iv x).toInt16
  have h2 := Int16.toInt_lt (iv x).toInt16
  exact ⟨h1, by omega⟩
/-- what is kept of a number that is written -/
def kept (fl x : Int) : Int := if fl = 0 then i_i2s x else x
theorem sx_put {σ : St} {r p : Nat} {x3 : Int} {Q : Int → St → Prop} (hr : r < 4) (hp : p < 40) (h3 : inR x3) (hf : ∀ i, 0 ≤ σ 25 0 i ∧ σ 25 0 i ≤ 1) (q1 : (σ 25 0 r = 0 ∨ (-1000000 ≤ x3 ∧ x3 ≤ 1000000)) → ∀ τ : St, τ = st (st σ 27 0 (40 * r + p) (if kept (σ 25 0 r) x3 = -32768 then 1 else 0)) 26 0 (40 * r + p) (if σ 25 0 r = 0 then 8 * kept (σ 25 0 r) x3 else 2 * kept (σ 25 0 r) x3) → Q 1 τ) (q0 : ¬ (σ 25 0 r = 0 ∨ (-1000000 ≤ x3 ∧ x3 ≤ 1000000)) → Q 0 σ) : wp_X2_put σ r p x3 Q := by
  have fb := hf r
  have fin : ∀ (kp hv ev : Int), kp = kept (σ 25 0 r) x3 → hv = (if kept (σ 25 0 r) x3 = -32768 then 1 else 0) → (σ 25 0 r = 0 ∨ (-1000000 ≤ x3 ∧ x3 ≤ 1000000)) → ∀ v9 : Int, v9 = (r : Int) * 40 + p → wp_X2_put_66 Q σ r kp v9 hv v9 := by
    intro kp hv ev hk hh hc v9 e9
    unfold wp_X2_put_66 wp_X2_put_94
    rw [show Int.toNat v9 = 40 * r + p by omega]
    refine ⟨by omega, by omega, ?_, fun s1 e1 => ?_⟩
    · rw [hh]
      split
      · exact Or.inr rfl
      · exact Or.inl rfl
    · have t25 : s1 25 = σ 25 := by rw [e1, rs_ne (by decide)]
      rw [t25, Int.toNat_natCast]
      refine ⟨by omega, by omega, ⟨by omega, by omega⟩, fun c => ⟨by omega, by omega, fun s2 e2 => q1 hc s2 ?_⟩, fun c => ⟨by omega, by omega, fun s2 e2 => q1 hc s2 ?_⟩⟩
      · rw [e2, e1, hh, hk, if_pos c]
      · rw [e2, e1, hh, hk, if_neg c]
  have mid : ∀ kp : Int, kp = kept (σ 25 0 r) x3 → inR kp → (σ 25 0 r = 0 ∨ (-1000000 ≤ x3 ∧ x3 ≤ 1000000)) → wp_X2_put_37 Q σ r p kp := by
    intro kp hk hR hc v9 e9
    refine ⟨hR, fun c => fin kp 0 0 hk ?_ hc v9 e9, fun c => fin kp 1 0 hk ?_ hc v9 e9⟩
    · rw [← hk, if_neg c]
    · rw [← hk, if_pos c]
  have p22 : (σ 25 0 r = 0 ∨ (-1000000 ≤ x3 ∧ x3 ≤ 1000000)) → wp_X2_put_22 Q σ r p x3 := by
    intro hc
    unfold wp_X2_put_22
    rw [Int.toNat_natCast]
    have sb := i2s_b x3
    refine ⟨by omega, by omega, ⟨by omega, by omega⟩, fun c => mid _ (by unfold kept; rw [if_pos c]) ⟨by omega, by omega⟩ hc, fun c => mid _ (by unfold kept; rw [if_neg c]) h3 hc⟩
  unfold wp_X2_put
  rw [Int.toNat_natCast]
  exact ⟨by omega, by omega, ⟨by omega, by omega⟩, fun c => p22 (Or.inl c), fun c => wi_x h3 ⟨by decide, by decide⟩ ⟨by decide, by decide⟩ (fun a b => ⟨in1, fun _ => p22 (Or.inr ⟨a, b⟩), fun c => absurd c (by decide)⟩) (fun a => ⟨in0, fun c => absurd rfl c, fun _ => q0 (fun z => z.elim c a)⟩)⟩
theorem sm_write {σ : St} {r p : Nat} {x3 : Int} {Q : Int → St → Prop} (hr : r < 4) (hp : (p : Int) < σ 152 0 r) (hl : σ 152 0 r ≤ 40) (h3 : inR x3) (hf : ∀ i, 0 ≤ σ 153 0 i ∧ σ 153 0 i ≤ 1) (q1 : (σ 153 0 r = 0 ∨ (-1000000 ≤ x3 ∧ x3 ≤ 1000000)) → ∀ τ : St, τ = st (st (st σ 12 0 0 0) 155 0 (40 * r + p) (if kept (σ 153 0 r) x3 = -32768 then 1 else 0)) 154 0 (40 * r + p) (if σ 153 0 r = 0 then 8 * kept (σ 153 0 r) x3 else 2 * kept (σ 153 0 r) x3) → Q 1 τ) (q0 : ¬ (σ 153 0 r = 0 ∨ (-1000000 ≤ x3 ∧ x3 ≤ 1000000)) → Q 0 (st σ 12 0 0 0)) : wp_X12_write σ r p x3 Q := by
  have fb := hf r
  intro τ eτ
  have u153 : τ 153 = σ 153 := by rw [eτ, rs_ne (by decide)]
  have u152 : τ 152 = σ 152 := by rw [eτ, rs_ne (by decide)]
  rw [← eτ] at q0 q1
  have fin : ∀ (kp hv : Int), kp = kept (σ 153 0 r) x3 → hv = (if kept (σ 153 0 r) x3 = -32768 then 1 else 0) → (σ 153 0 r = 0 ∨ (-1000000 ≤ x3 ∧ x3 ≤ 1000000)) → wp_X12_write_78 Q τ r p kp hv (40 * (r : Int) + p) := by
    intro kp hv hk hh hc
    unfold wp_X12_write_78 wp_X12_write_110
    rw [show Int.toNat (40 * (r : Int) + (p : Int)) = 40 * r + p by omega]
    refine ⟨by omega, by omega, ?_, fun s1 e1 => ?_⟩
    · rw [hh]
      split
      · exact Or.inr rfl
      · exact Or.inl rfl
    · have t25 : s1 153 = σ 153 := by rw [e1, rs_ne (by decide), u153]
      rw [t25, Int.toNat_natCast]
      refine ⟨by omega, by omega, ⟨by omega, by omega⟩, fun c => ⟨by omega, by omega, fun s2 e2 => q1 hc s2 ?_⟩, fun c => ⟨by omega, by omega, fun s2 e2 => q1 hc s2 ?_⟩⟩
      · rw [e2, e1, hh, hk, if_pos c]
      · rw [e2, e1, hh, hk, if_neg c]
  have mid : ∀ kp : Int, kp = kept (σ 153 0 r) x3 → inR kp → (σ 153 0 r = 0 ∨ (-1000000 ≤ x3 ∧ x3 ≤ 1000000)) → wp_X12_write_53 Q τ r p kp := by
    intro kp hk hR hc
    refine ⟨hR, fun c => fin kp 0 hk ?_ hc, fun c => fin kp 1 hk ?_ hc⟩
    · rw [← hk, if_neg c]
    · rw [← hk, if_pos c]
  have p22 : (σ 153 0 r = 0 ∨ (-1000000 ≤ x3 ∧ x3 ≤ 1000000)) → wp_X12_write_38 Q τ r p x3 := by
    intro hc
    unfold wp_X12_write_38
    rw [Int.toNat_natCast, u153]
    have sb := i2s_b x3
    refine ⟨by omega, by omega, ⟨by omega, by omega⟩, fun c => mid _ (by unfold kept; rw [if_pos c]) ⟨by omega, by omega⟩ hc, fun c => mid _ (by unfold kept; rw [if_neg c]) h3 hc⟩
  refine sm_isPlace hr (by rw [u152]; omega) ⟨by omega, by omega⟩ (fun a b => ⟨in1, fun c => absurd c (by decide), fun _ => ?_⟩) (fun a => absurd (by rw [u152]; omega) a)
  rw [Int.toNat_natCast, u153]
  exact ⟨by omega, by omega, ⟨by omega, by omega⟩, fun c => p22 (Or.inl c), fun c => wi_m h3 ⟨by decide, by decide⟩ ⟨by decide, by decide⟩ (fun a b => ⟨in1, fun _ => p22 (Or.inr ⟨a, b⟩), fun c => absurd c (by decide)⟩) (fun a => ⟨in0, fun c => absurd rfl c, fun _ => q0 (fun z => z.elim c a)⟩)⟩
theorem op_write {n : Nat} {σ : St} {x1 x2 x3 : Int} (hI : Inv n σ) (h1 : inR x1) (h2 : inR x2) (h3 : inR x3) : wp_X11_write σ x1 x2 x3 (fun r σ1 => wp_X12_write σ1 x1 x2 x3 (fun r2 σ2 => r2 = r ∧ Inv (n + 1) σ2)) := by
  have hI0 := hI
  obtain ⟨a_sky, a_land, a_price, a_ints, a_logA, a_logB, a_live, a_lying, a_ways, a_crews, a_dbl, a_tape, a_law, a_ord, a_spur, a_cuts, a_cru, a_kf, a_tn⟩ := hI
  obtain ⟨⟨c1, c2, c3, c4⟩, cl, cf, ce, ch⟩ := id a_cru
  have hno : ¬ (0 ≤ x1 ∧ x1 ≤ 3 ∧ ¬ σ 24 0 x1.toNat = -1 ∧ 0 ≤ x2 ∧ x2 < σ 24 0 x1.toNat) → wp_X12_write σ x1 x2 x3 (fun r2 σ2 => r2 = 0 ∧ Inv (n + 1) σ2) := by
    intro hc τ eτ
    have hi : Inv (n + 1) τ := by rw [eτ]; exact Inv_t hI0
    have t1 : τ 152 0 = σ 24 0 := by rw [eτ, rs_ne (by decide), c1]
    unfold wp_X12_isPlace
    refine wi_m h1 in0 ⟨by decide, by decide⟩ (fun a b => ⟨in1, fun c => absurd c (by decide), fun _ => ?_⟩) (fun a => ⟨in0, fun _ => ⟨in0, fun _ => ⟨rfl, hi⟩, fun c => absurd rfl c⟩, fun c => absurd rfl c⟩)
    have := cl x1.toNat (by omega)
    rw [t1]
    exact ⟨by omega, by omega, ⟨by omega, by omega⟩, fun _ => ⟨in0, fun _ => ⟨rfl, hi⟩, fun c => absurd rfl c⟩, fun d => ⟨by omega, by omega, wi_m h2 in0 ⟨by omega, by omega⟩ (fun a2 b2 => absurd ⟨a, b, d, a2, by omega⟩ hc) (fun a2 => ⟨in0, fun _ => ⟨in0, fun _ => ⟨rfl, hi⟩, fun c => absurd rfl c⟩, fun c => absurd rfl c⟩)⟩⟩
  unfold wp_X11_write wp_X2_hasPlace wp_X2_hasRow
  refine wi_x h1 in0 ⟨by decide, by decide⟩ (fun a b => ⟨in1, fun c => absurd c (by decide), fun _ => ?_⟩) (fun a => ⟨in0, fun _ => ⟨in0, fun _ => ⟨in0, fun _ => hno (by omega), fun c => absurd rfl c⟩, fun c => absurd rfl c⟩, fun c => absurd rfl c⟩)
  have cb := cl x1.toNat (by omega)
  refine ⟨by omega, by omega, ⟨by omega, by omega⟩, fun d => ⟨in0, fun _ => ⟨in0, fun _ => hno (fun z => z.2.2.1 d), fun c => absurd rfl c⟩, fun c => absurd rfl c⟩, fun d => ⟨in1, fun c => absurd c (by decide), fun _ => ⟨by omega, by omega, ?_⟩⟩⟩
  refine wi_x h2 in0 ⟨by omega, by omega⟩ (fun a2 b2 => ⟨in1, fun c => absurd c (by decide), fun _ => ⟨in1, fun c => absurd c (by decide), fun _ => ?_⟩⟩) (fun a2 => ⟨in0, fun _ => ⟨in0, fun _ => hno (by omega), fun c => absurd rfl c⟩, fun c => absurd rfl c⟩)
  obtain ⟨r, er⟩ : ∃ r : Nat, (r : Int) = x1 := ⟨x1.toNat, by omega⟩
  obtain ⟨p, ep⟩ : ∃ p : Nat, (p : Int) = x2 := ⟨x2.toNat, by omega⟩
  have er2 : x1.toNat = r := by omega
  rw [er2] at cb d b2
  have hr4 : r < 4 := by omega
  rw [← er, ← ep]
  have fb := cf r
  have kb : (σ 25 0 r = 0 ∨ (-1000000 ≤ x3 ∧ x3 ≤ 1000000)) → -2000000 ≤ (if σ 25 0 r = 0 then 8 * kept (σ 25 0 r) x3 else 2 * kept (σ 25 0 r) x3) ∧ (if σ 25 0 r = 0 then 8 * kept (σ 25 0 r) x3 else 2 * kept (σ 25 0 r) x3) ≤ 2000000 := by
    intro z
    have sb := i2s_b x3
    unfold kept
    split
    · omega
    · omega
  have hb1 : 0 ≤ (if kept (σ 25 0 r) x3 = -32768 then (1 : Int) else 0) ∧ (if kept (σ 25 0 r) x3 = -32768 then (1 : Int) else 0) ≤ 1 := by
    split <;> omega
  refine sx_put hr4 (by omega) h3 cf (fun z s1 e1 => ⟨in1, fun c => absurd c (by decide), fun _ => ?_⟩) (fun z => ⟨in0, fun _ => ?_, fun c => absurd rfl c⟩)
  · have t2 : s1 152 0 = σ 24 0 := by rw [e1, rs_ne (by decide), rs_ne (by decide), c1]
    have t3 : s1 153 0 = σ 25 0 := by rw [e1, rs_ne (by decide), rs_ne (by decide), c2]
    refine sm_write hr4 (by rw [t2]; omega) (by rw [t2]; omega) h3 (by rw [t3]; exact cf) (fun _ s2 e2 => ⟨rfl, ?_⟩) (fun y => absurd (by rw [t3]; exact z) y)
    rw [t3] at e2
    have kb2 := kb z
    generalize (if σ 25 0 r = 0 then 8 * kept (σ 25 0 r) x3 else 2 * kept (σ 25 0 r) x3) = u at *
    generalize (if kept (σ 25 0 r) x3 = -32768 then (1 : Int) else 0) = w at *
    rw [e2, e1]
    unfold Inv
    simp (decide := true) only [rs_ne, rs_fn, upj_eq, upj_ne, up_eq, up_ne, ra_ne, ra_fn, upr_eq, upr_ne, not_false_eq_true, ne_eq]
    refine ⟨?_, ?_, ?_, ?_, ?_, ?_, ?_, ?_, ?_, ?_, ?_, ?_, ?_, ?_, ?_, ?_, ?_, ?_, ?_⟩
    · exact a_sky
    · exact a_land
    · exact a_price
    · exact I_ints_up a_ints
    · exact a_logA
    · exact a_logB
    · exact a_live
    · exact a_lying
    · exact a_ways
    · exact a_crews
    · exact a_dbl
    · exact a_tape
    · exact a_law
    · exact a_ord
    · exact a_spur
    · exact a_cuts
    · exact ⟨⟨c1, c2, by rw [c3], by rw [c4]⟩, cl, cf, up_all (P := fun x => -2000000 ≤ x ∧ x ≤ 2000000) ce kb2, up_all (P := fun x => 0 ≤ x ∧ x ≤ 1) ch hb1⟩
    · exact a_kf
    · exact a_tn
  · refine sm_write hr4 (by rw [c1]; omega) (by rw [c1]; omega) h3 (by rw [c2]; exact cf) (fun y => absurd (by rw [c2] at y; exact y) z) (fun _ => ⟨rfl, Inv_t hI0⟩)
