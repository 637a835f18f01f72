/-! fall: the invariant behind it -/
theorem I_land_fall {h s t g p h2 s2 t2 g2 p2 : Nat → Int} {mill mill2 lc lc' : Int} {c q : Nat} (a : I_land h s t g p mill h2 s2 t2 g2 p2 mill2 lc) (hl : lc + 1 ≤ lc') (hq : 1 ≤ t q) : I_land h (up s c (s c + 3)) (up t q (t q - 1)) g p mill h2 (up s2 c (s2 c + 3)) (up t2 q (t2 q - 1)) g2 p2 mill2 lc' := by
  obtain ⟨⟨e1, e2, e3, e4, e5, e6⟩, b1, b2, b3, b4, b5⟩ := a
  refine ⟨⟨e1, by rw [e2], by rw [e3], e4, e5, e6⟩, b1, b2, fun i => ?_, fun i => ?_, b5⟩
  · have b := b3 i
    have b' := b3 c
    unfold up
    split <;> omega
  · have b := b4 i
    have b' := b4 q
    unfold up
    split <;> omega
theorem I_crews_fall {cc cc2 lc lc' today amt : Int} {C : Nat → Nat → Int} {f79 a1 b2 e2 o2 p2 l2 : Nat → Int} {j : Nat} (a : I_crews cc cc2 lc today C f79 a1 b2 e2 o2 p2 l2) (hj : (j : Int) < cc) (hl : lc ≤ lc') (ha : 0 ≤ amt ∧ amt ≤ 3000000 * (lc' - lc)) : I_crews cc cc2 lc' today (upj C j 1 (C j 1 + amt)) f79 a1 b2 (up e2 j (e2 j + amt)) o2 p2 l2 := by
  obtain ⟨g1, g2, g3⟩ := a
  refine ⟨g1, fun i hi => ?_, fun i hi => ?_⟩
  · obtain ⟨y1, ⟨c0, c1, c2, c3, c4⟩, y3⟩ := g2 i hi
    by_cases e : i = j
    · subst e
      rw [upj_eq, up_eq, up_eq, up_ne (by decide), up_ne (by decide), up_ne (by decide), up_ne (by decide)]
      exact ⟨y1, ⟨c0, by rw [c1], c2, c3, c4⟩, by omega⟩
    · rw [upj_ne e, up_ne e]
      exact ⟨y1, ⟨c0, c1, c2, c3, c4⟩, by omega⟩
  · rw [up_ne (by omega)]
    exact g3 i hi
theorem I_dbl_fall {dc dc2 lc lc' : Int} {a b c a2 b2 c2 : Nat → Int} (h : I_dbl dc dc2 lc a b c a2 b2 c2) (hl : lc ≤ lc') : I_dbl dc dc2 lc' a b c a2 b2 c2 := by
  obtain ⟨g1, g2, g3, g4, g5⟩ := h
  exact ⟨g1, g2, g3, fun i hi => by have := g4 i hi; omega, g5⟩
/-- the class's world behind a fall -/
def FaX (σ S : St) (j c p m : Nat) (amt : Int) : Prop := (∀ k, ¬ k = 0 → ¬ k = 1 → ¬ k = 4 → ¬ k = 11 → ¬ k = 21 → ¬ k = 22 → ¬ k = 23 → ¬ k = 29 → ¬ k = 30 → ¬ k = 31 → ¬ k = 35 → ¬ k = 36 → ¬ k = 37 → ¬ k = 38 → ¬ k = 50 → ¬ k = 75 → ¬ k = 77 → S k = σ k) ∧ (∀ i, ¬ i = 4 → S 11 0 i = σ 11 0 i) ∧ S 11 0 4 = σ 11 0 4 + m ∧ (∀ j, ¬ j = 4 → ¬ j = 5 → S 50 j = σ 50 j) ∧ S 1 = upj (σ 1) j 1 (σ 1 j 1 + amt) ∧ S 29 0 = up (σ 29 0) c (σ 29 0 c + 3) ∧ S 30 0 = up (σ 30 0) p (σ 30 0 p - 1)
theorem Inv_fall {n : Nat} {σ S U : St} {j c p m : Nat} {amt : Int} (hI : Inv n σ) (hS : FaX σ S j c p m amt) (hm : 1 ≤ m) (hj : (j : Int) < σ 11 0 11) (ha : 0 ≤ amt ∧ amt ≤ 3000000 * (m : Int)) (hp : 1 ≤ σ 30 0 p)
    (hk : ∀ k, ¬ k = 12 → ¬ k = 84 → ¬ k = 85 → ¬ k = 93 → ¬ k = 94 → (k < 95 ∨ 108 < k) → ¬ k = 119 → ¬ k = 126 → U k = S k) (h12 : ∀ i, ¬ i = 0 → ¬ i = 15 → ¬ i = 17 → U 12 0 i = σ 12 0 i)
    (h126 : U 126 0 = up (σ 126 0) j (σ 126 0 j + amt)) (h84 : U 84 0 = up (σ 84 0) c (σ 84 0 c + 3)) (h85 : U 85 0 = up (σ 85 0) p (σ 85 0 p - 1)) (hR : RelL S U) : Inv (n + 1) U := by
  obtain ⟨s1, s2, s3, s4, s5, s6, s7⟩ := hS
  obtain ⟨hA, hB, hV, hY, hK⟩ := hR
  obtain ⟨a_sky, a_land, a_price, a_ints, a_logA, a_logB, a_live, a_lying, a_ways, a_crews, a_dbl, a_tape, a_law, a_ord, a_spur, a_cuts, a_cru, a_kf, a_tn⟩ := hI
  unfold Inv
  simp (decide := true) only [hk, h12, h126, h84, h85, not_false_eq_true, or_true, true_or, or_false, false_or]
  simp (decide := true) only [s1, s2, s4, s5, s6, s7, not_false_eq_true]
  refine ⟨a_sky, I_land_fall a_land (by omega) hp, a_price, I_ints_up a_ints, hA, hB, hV, hY, a_ways, I_crews_fall a_crews hj (by omega) (by omega), I_dbl_fall a_dbl (by omega), a_tape, a_law, a_ord, a_spur, a_cuts, a_cru, hK, a_tn⟩
theorem lastv_ex (M : Nat → Prop) (v : Nat → Int) (d : Int) : ∀ k : Nat, ∃ r, lastv (k : Int) M v d r := by
  intro k
  induction k with
  | zero => exact ⟨d, Or.inl ⟨rfl, fun k hk => absurd hk (by omega)⟩⟩
  | succ k ih =>
    by_cases c : M k
    · exact ⟨v k, Or.inr ⟨k, rfl, by omega, c, fun k' z1 z2 => absurd z2 (by omega)⟩⟩
    · obtain ⟨r, h⟩ := ih
      refine ⟨r, ?_⟩
      rcases h with ⟨h1, h2⟩ | ⟨a, h1, h2, h3, h4⟩
      · refine Or.inl ⟨h1, fun k' z => ?_⟩
        by_cases e : k' = k
        · rw [e]; exact c
        · exact h2 k' (by omega)
      · refine Or.inr ⟨a, h1, by omega, h3, fun k' z1 z2 => ?_⟩
        by_cases e : k' = k
        · rw [e]; exact c
        · exact h4 k' z1 (by omega)
theorem NumF_ex {n : Nat} {σ : St} {f : Nat → Int} {verb : Int} (hI : Inv n σ) : ∃ r, NumF σ f verb r := by
  obtain ⟨-, -, -, -, -, -, -, -, -, -, -, -, a_law, -⟩ := hI
  have hl := LawX.of a_law
  have t0 : 0 ≤ tmany (σ 66 0) (σ 67 0) (σ 7 0 3) (σ 8 0 10) := by
    have lb := lat_b (σ 66 0) (σ 7 0 3) (σ 8 0 10).toNat
    obtain ⟨h1, h2⟩ := hl
    unfold tmany tforce
    by_cases c : lat (σ 66 0) (σ 7 0 3) (σ 8 0 10).toNat = -1
    · rw [if_pos c]
      omega
    · rw [if_neg c]
      have := (h2 (lat (σ 66 0) (σ 7 0 3) (σ 8 0 10).toNat).toNat (by omega)).1
      omega
  obtain ⟨r, h⟩ := lastv_ex (fun k => σ 68 0 (12 * tforce (σ 66 0) (σ 7 0 3) (σ 8 0 10) + k) = verb ∧ Hd f (σ 71 0) (σ 72 0) (σ 73 0) (σ 74 0) (12 * tforce (σ 66 0) (σ 7 0 3) (σ 8 0 10) + k) (σ 70 0 (12 * tforce (σ 66 0) (σ 7 0 3) (σ 8 0 10) + k))) (fun k => σ 69 0 (12 * tforce (σ 66 0) (σ 7 0 3) (σ 8 0 10) + k)) (dflt verb) (tmany (σ 66 0) (σ 67 0) (σ 7 0 3) (σ 8 0 10)).toNat
  rw [Int.toNat_of_nonneg t0] at h
  exact ⟨r, h⟩
theorem wiF_b {tp : Nat → Int} {so sz : Int} {f : Nat → Int} {m : Nat} (hso : 0 ≤ so ∧ so ≤ 3) (hsz : 0 ≤ sz ∧ sz ≤ 3) (htp : ∀ i, i < 4 → 1 ≤ tp i ∧ tp i ≤ 3) (hm : m ≤ 5) (hf : ∀ i, i < m → 2 ≤ f i ∧ f i ≤ 6) : ∀ i, i < m → 1 ≤ wiF tp so sz f i ∧ wiF tp so sz f i ≤ 32 := by
  intro i hi
  have b1 := sum_fb hf (i + 1) (by omega)
  exact wdv_b hso hsz (htp so.toNat (by omega)) (by omega)
theorem psum_b {wi f : Nat → Int} {ru : Int} {m : Nat} (hw : ∀ i, i < m → 1 ≤ wi i ∧ wi i ≤ 32) (hf : ∀ i, i < m → 2 ≤ f i ∧ f i ≤ 6) : ∀ i, i ≤ m → 0 ≤ psum wi f ru i ∧ psum wi f ru i ≤ 294 * (i : Int) := by
  intro i
  induction i with
  | zero => intro _; exact ⟨Int.le_refl _, Int.le_refl _⟩
  | succ i ih =>
    intro hi
    have a := ih (by omega)
    have b := scv_b (r := ru) (hw i (by omega)).1 (hw i (by omega)).2 (hf i (by omega)).1 (hf i (by omega)).2
    have e : psum wi f ru (i + 1) = psum wi f ru i + scv (wi i) (f i) ru := rfl
    rw [e]
    omega
/-- the class, behind the choice -/
theorem fall_x {n : Nat} {σ T : St} {j c m : Nat} {so sz pay y0 : Int} {f fc : Nat → Int} {Q : Int → St → Prop} (hI : Inv n σ) (hj : (j : Int) < σ 11 0 11) (hT : ∀ k, ¬ k = 0 → ¬ k = 21 → ¬ k = 22 → ¬ k = 23 → ¬ k = 75 → T k = σ k) (e4 : T 0 0 4 = m) (e23 : T 23 0 = f) (e75 : T 75 0 = fc) (hF : ∀ i, i < 13 → inR (fc i)) (hpay : NumF σ fc 1 pay) (hm5 : m ≤ 5) (hf : ∀ i, i < m → 2 ≤ f i ∧ f i ≤ 6) (hc : c ≤ 63) (hso : 0 ≤ so ∧ so ≤ 3) (hsz : 0 ≤ sz ∧ sz ≤ 3) (hy : inR y0) (hy2 : ¬ y0 = -1)
    (q : σ 11 0 4 + m ≤ 300 → ∀ S, FaX σ S j c (16 * c + 4 * so.toNat + sz.toNat) m (pay * psum (wiF (σ 33 0) so sz f) f (σ 11 0 12) m) → S 0 0 4 = m → RelL S (nmF σ (σ 11 0 4).toNat c so (σ 125 0 j) (σ 7 0 3) (σ 3 0 6) f (wiF (σ 33 0) so sz f) m) → Q m S)
    (q5 : ¬ σ 11 0 4 + m ≤ 300 → Q (-5) T) : wp_X11_fall_128 Q T c so sz j y0 := by
  have hI0 := hI
  obtain ⟨a_sky, a_land, a_price, a_ints, a_logA, a_logB, a_live, a_lying, a_ways, a_crews, a_dbl, a_tape, a_law, a_ord, a_spur, a_cuts, a_cru, a_kf, a_tn⟩ := hI
  obtain ⟨⟨k1, k2, k3⟩, k4, -⟩ := id a_sky
  obtain ⟨v1, v2, -⟩ := id a_live
  obtain ⟨-, m1, -, -, -, -, lp⟩ := id a_land
  obtain ⟨-, -, -, ir⟩ := id a_ints
  obtain ⟨cr1, cr2, cr3⟩ := id a_crews
  obtain ⟨⟨c1, c2⟩, ⟨c3, c4, c5, c6, c7⟩, c8⟩ := cr2 j hj
  have t := fun (k : Nat) (h : (0 < k ∧ k < 21) ∨ (23 < k ∧ k < 75) ∨ 75 < k) => hT k (by omega) (by omega) (by omega) (by omega) (by omega)
  have lx : LawX (T 8 0 10) (T 66 0) (T 67 0) (T 68 0) (T 69 0) (T 70 0) (T 71 0) (T 72 0) (T 73 0) (T 74 0) := by
    rw [t 8 (by omega), t 66 (by omega), t 67 (by omega), t 68 (by omega), t 69 (by omega), t 70 (by omega), t 71 (by omega), t 72 (by omega), t 73 (by omega), t 74 (by omega)]
    exact LawX.of a_law
  unfold wp_X11_fall_128
  rw [t 11 (by omega), e4]
  refine ⟨hy, fun _ => ⟨⟨by omega, by omega⟩, fun z => ?_, q5⟩, fun z => absurd z hy2⟩
  have t7 : T 7 = σ 7 := t 7 (by omega)
  refine sx_numberOn lx (by rw [t7]; exact ⟨by omega, by omega⟩) ⟨by decide, by decide⟩ (by rw [e75]; exact hF) (fun r hr => ?_)
  have er : r = pay := by
    unfold NumX at hr
    rw [t7, e75, t 8 (by omega), t 66 (by omega), t 67 (by omega), t 68 (by omega), t 69 (by omega), t 70 (by omega), t 71 (by omega), t 72 (by omega), t 73 (by omega), t 74 (by omega)] at hr
    exact lastv_uni hpay hr (fun k _ => Iff.rfl) (fun k _ _ => rfl)
  subst er
  have t50 : T 50 = σ 50 := t 50 (by omega)
  have t1 : T 1 = σ 1 := t 1 (by omega)
  rw [t50, t1, c3]
  refine ⟨c2, c2, c2, 6, ?_⟩
  have eL : ((σ 11 0 4).toNat : Int) = σ 11 0 4 := Int.toNat_of_nonneg v2.1
  have R0 : RelL T σ := by
    unfold RelL
    rw [t 11 (by omega), t 4 (by omega), t 38 (by omega), t 35 (by omega), t 36 (by omega), t 37 (by omega), t 77 (by omega), t50, t 31 (by omega)]
    exact ⟨a_logA, a_logB, a_live, a_lying, a_kf⟩
  have t33 : T 33 = σ 33 := t 33 (by omega)
  refine mk_loop (σ := T) (V0 := σ) (l0 := (σ 11 0 4).toNat) (m := m) (f := f) (td := σ 7 0 3) (mill := σ 3 0 6) (ru := σ 11 0 12) hm5 (by omega) hc hso hsz (by omega) (by rw [t7]) (by omega) (by rw [t 3 (by omega)]) m1 (by rw [t33]; exact lp) (by rw [t 11 (by omega)]) ⟨by omega, by omega⟩ e4 e23 hf (fun S hR hFr => ?_) m 0 6 T (by omega) (by omega) R0 ⟨fun k _ _ _ _ _ _ _ _ _ => rfl, fun i _ => rfl, by rw [t 11 (by omega)]; omega, fun j _ _ => rfl⟩
  rw [t33] at hR ⊢
  obtain ⟨g1, g2, g3, g4⟩ := hFr
  refine ⟨by rw [g4 1 (by decide) (by decide), t50]; exact c2, fun S1 e1 => ?_⟩
  unfold wp_X3_takeStem wp_X3_stemPlace
  dsimp only
  have ep : Int.toNat ((c : Int) * 16 + so * 4 + sz) = 16 * c + 4 * so.toNat + sz.toNat := by omega
  rw [ep, Int.toNat_natCast]
  refine ⟨by omega, by omega, by omega, by omega, fun S2 e2 => ⟨by omega, by omega, by omega, by omega, fun S3 e3 => ?_⟩⟩
  have gk := fun (k : Nat) (h : k < 4 ∨ (4 < k ∧ k < 11) ∨ (11 < k ∧ k < 31) ∨ (31 < k ∧ k < 35) ∨ (38 < k ∧ k < 50) ∨ (50 < k ∧ k < 77) ∨ 77 < k) => g1 k (by omega) (by omega) (by omega) (by omega) (by omega) (by omega) (by omega) (by omega) (by omega)
  have u : ∀ k, ¬ k = 1 → ¬ k = 29 → ¬ k = 30 → S3 k = S k := fun k z1 z2 z3 => by rw [e3, rs_ne z2, e2, rs_ne z3, e1, rs_ne z1]
  have u0 : S3 0 0 4 = m := by rw [u 0 (by decide) (by decide) (by decide), gk 0 (by omega), e4]
  rw [u0]
  refine q z S3 ⟨fun k z0 z1 z4 z11 z21 z22 z23 z29 z30 z31 z35 z36 z37 z38 z50 z75 z77 => ?_, fun i hi => ?_, ?_, fun j z1 z2 => ?_, ?_, ?_, ?_⟩ u0 ?_
  · rw [u k z1 z29 z30, g1 k z4 z11 z31 z35 z36 z37 z38 z50 z77, hT k z0 z21 z22 z23 z75]
  · rw [u 11 (by decide) (by decide) (by decide), g2 i hi, t 11 (by omega)]
  · rw [u 11 (by decide) (by decide) (by decide), g3, eL]
  · rw [u 50 (by decide) (by decide) (by decide), g4 j z1 z2, t50]
  · rw [e3, rs_ne (by decide), e2, rs_ne (by decide), e1, rs_fn, gk 1 (by omega), t1]
  · rw [e3, rs_eq, e2, rs_ne (by decide), e1, rs_ne (by decide), gk 29 (by omega), t 29 (by omega)]
  · rw [e3, rs_ne (by decide), e2, rs_eq, e1, rs_ne (by decide), gk 30 (by omega), t 30 (by omega)]
  · unfold RelL
    rw [u 11 (by decide) (by decide) (by decide), u 4 (by decide) (by decide) (by decide), u 38 (by decide) (by decide) (by decide), u 35 (by decide) (by decide) (by decide), u 36 (by decide) (by decide) (by decide), u 37 (by decide) (by decide) (by decide), u 77 (by decide) (by decide) (by decide), u 50 (by decide) (by decide) (by decide), u 31 (by decide) (by decide) (by decide)]
    exact hR
