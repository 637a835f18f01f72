/-! the call fall -/
theorem Pcs_b {P W F G f : Nat → Int} {all m : Nat} (h : ∀ a, a ≤ all → PAt P W all F a (G a)) (hp : Pcs all G f m) (h2 : 2 ≤ all) : 1 ≤ m ∧ ∀ i, i < m → 2 ≤ f i ∧ f i ≤ 6 := by
  obtain ⟨p1, p2, p3⟩ := hp
  refine ⟨?_, fun i hi => ?_⟩
  · by_cases e : m = 0
    · subst e
      have w0 : walk G 0 = 0 := rfl
      rw [w0] at p3
      omega
    · omega
  · obtain ⟨a1, a2⟩ := p2 i hi
    obtain ⟨u, e, u1, u2, -⟩ := (h (walk G i) (by omega)).2 a1
    rw [a2, e]
    omega
theorem B_b {P W b : Nat → Int} {all : Nat} (hP : ∀ i, 0 ≤ P i ∧ P i ≤ 99) (hW : ∀ i, 2 ≤ i → i ≤ all → 1 ≤ W i ∧ W i ≤ 34) (h : ∀ a, a ≤ all → BAt P W all b a) : ∀ d a, a + d = all → 0 ≤ b a ∧ b a ≤ 3366 * (d : Int) := by
  intro d
  induction d using Nat.strongRecOn with
  | ind d ih =>
    intro a ha
    obtain ⟨h1, h2⟩ := h a (by omega)
    by_cases c : all < a + 2
    · rw [h1 c]
      omega
    · obtain ⟨-, u, u1, u2, u3, u4⟩ := h2 (by omega)
      have i := ih (d - u) (by omega) (a + u) (by omega)
      have g := gn_b (u := u) (a := a) (b := b) (B := 3366 * ((d - u : Nat) : Int)) hP (hW (a + u) (by omega) (by omega)) i
      rw [u4] at g
      omega
theorem wsum_b {p tp f : Nat → Int} {s k : Int} {m : Nat} (hs : 0 ≤ s ∧ s ≤ 3) (hk : 0 ≤ k ∧ k ≤ 3) (htp : ∀ i, i < 4 → 1 ≤ tp i ∧ tp i ≤ 3) (hp : ∀ i, 0 ≤ p i ∧ p i ≤ 99) (hm : m ≤ 5) (hf : ∀ i, i < m → 2 ≤ f i ∧ f i ≤ 6) : ∀ i, i ≤ m → 0 ≤ wsum p tp s k f i ∧ wsum p tp s k f i ≤ 3168 * (i : Int) := by
  have wb := wiF_b hs hk htp hm hf
  intro i
  induction i with
  | zero => intro _; exact ⟨Int.le_refl _, Int.le_refl _⟩
  | succ i ih =>
    intro hi
    have a := ih (by omega)
    have b := wb i (by omega)
    have c := hp (f i).toNat
    have e : wsum p tp s k f (i + 1) = wsum p tp s k f i + p (f i).toNat * wiF tp s k f i := rfl
    have d := Int.mul_nonneg c.1 (show 0 ≤ wiF tp s k f i by omega)
    have d2 := Int.mul_le_mul c.2 b.2 (show 0 ≤ wiF tp s k f i by omega) (show (0 : Int) ≤ 99 by decide)
    rw [e]
    omega
theorem FaX_MEq {σ S : St} {j c p m : Nat} {amt : Int} (h : FaX σ S j c p m amt) : MEq σ (st S 12 0 0 0) := by
  have g : ∀ k, 12 ≤ k → (k = 12 ∨ 83 ≤ k) → S k = σ k := fun k _ z => h.1 k (by omega) (by omega) (by omega) (by omega) (by omega) (by omega) (by omega) (by omega) (by omega) (by omega) (by omega) (by omega) (by omega) (by omega) (by omega) (by omega) (by omega)
  exact ⟨fun i hi => by rw [rs_eq, up_ne hi, g 12 (by omega) (by omega)], fun k z1 z2 => by rw [rs_ne (by omega), g k (by omega) (by omega)]⟩
/-- both, behind the choice: the reference's way to its own choice is `ref` -/
theorem fall_both {n : Nat} {σ T : St} {j c m : Nat} {x5 so sz pay y0 : Int} {f fc : Nat → Int} (hI : Inv n σ) (hj : (j : Int) < σ 11 0 11) (hT : ∀ k, ¬ k = 0 → ¬ k = 21 → ¬ k = 22 → ¬ k = 23 → ¬ k = 75 → T k = σ k) (e4 : T 0 0 4 = m) (e23 : T 23 0 = f) (e75 : T 75 0 = fc) (hF : ∀ i, i < 13 → inR (fc i)) (hpay : NumF σ fc 1 pay) (hm5 : m ≤ 5) (hm1 : 1 ≤ m) (hf : ∀ i, i < m → 2 ≤ f i ∧ f i ≤ 6) (hc : c ≤ 63) (hso : 0 ≤ so ∧ so ≤ 3) (hsz : 0 ≤ sz ∧ sz ≤ 3) (hy : inR y0) (hy2 : ¬ y0 = -1) (hst : 1 ≤ σ 30 0 (16 * c + 4 * so.toNat + sz.toNat))
    (ref : ∀ (s : St) (P : Int → St → Prop), MEq σ (st s 12 0 0 0) → (∀ R : St, (∀ k, ¬ k = 12 → ¬ k = 93 → ¬ k = 94 → ¬ k = 119 → R k = s k) → (∀ i, ¬ i = 0 → ¬ i = 15 → R 12 0 i = s 12 0 i) → R 12 0 15 = m → (∀ i, i < m → R 93 0 i = f i) → wp_X12_fall_117 P R j c so sz pay) → wp_X12_fall s j c so sz x5 P) :
    wp_X11_fall_128 (fun r σ1 => wp_X12_fall σ1 j c so sz x5 (fun r2 σ2 => r2 = r ∧ Inv (n + 1) σ2)) T c so sz j y0 := by
  have v1 := hI.2.2.2.2.2.2.1.1
  have v2 := hI.2.2.2.2.2.2.1.2.1
  have pb := numF_b hI ⟨by decide, by decide⟩ hpay
  refine fall_x hI hj hT e4 e23 e75 hF hpay hm5 hf hc hso hsz hy hy2 (fun z S hS _ hR => ?_) (fun z => ?_)
  · have em := FaX_MEq hS
    refine ref S _ em (fun R r1 r2 r3 r4 => fall_m hI hj hc hso hsz hm5 hm1 hf pb z hst hS hR r1 (fun i z1 z2 => ?_) r3 r4)
    rw [r2 i z1 z2]
    have e := em.1 i z1
    rw [rs_eq, up_ne z1] at e
    exact e
  · have t12 : T 12 = σ 12 := hT 12 (by decide) (by decide) (by decide) (by decide) (by decide)
    refine ref T _ ⟨fun i hi => by rw [rs_eq, up_ne hi, t12], fun k z1 z2 => by rw [rs_ne (by omega), hT k (by omega) (by omega) (by omega) (by omega) (by omega)]⟩ (fun R r1 r2 r3 r4 => ?_)
    have r17 : R 12 0 17 = σ 11 0 4 := by rw [r2 17 (by decide) (by decide), t12, v1]
    unfold wp_X12_fall_117
    rw [r17, r3]
    refine ⟨⟨by omega, by omega⟩, fun y => absurd y z, fun _ => ⟨rfl, Inv_scr hI (fun k z0 z12 z21 z22 z23 z75 z93 z94 z119 => ?_) (fun i z0 z15 => ?_)⟩⟩
    · rw [r1 k z12 z93 z94 z119, hT k z0 z21 z22 z23 z75]
    · rw [r2 i z0 z15, t12]
theorem op_fall {n : Nat} {σ : St} {x1 x2 x3 x4 x5 : Int} (hI : Inv n σ) (h1 : inR x1) (h2 : inR x2) (h3 : inR x3) (h4 : inR x4) (h5 : inR x5) : wp_X11_fall σ x1 x2 x3 x4 x5 (fun r σ1 => wp_X12_fall σ1 x1 x2 x3 x4 x5 (fun r2 σ2 => r2 = r ∧ Inv (n + 1) σ2)) := by
  have hI0 := hI
  obtain ⟨a_sky, a_land, a_price, a_ints, a_logA, a_logB, a_live, a_lying, a_ways, a_crews, a_dbl, a_tape, a_law, a_ord, a_spur, a_cuts, a_cru, a_kf, a_tn⟩ := hI
  obtain ⟨⟨l1, l2, l3, l4, l5, l6⟩, lm, lh, ls, lt, lg, lp⟩ := id a_land
  obtain ⟨p1, p2⟩ := id a_price
  obtain ⟨⟨v1, v2, v3⟩, cr2, cr3⟩ := id a_crews
  have lb := lt (16 * x2.toNat + 4 * x3.toNat + x4.toNat)
  have hi0 : Inv (n + 1) (st σ 12 0 0 0) := Inv_t hI0
  have hno : ¬ (0 ≤ x1 ∧ x1 < σ 11 0 11 ∧ σ 129 0 x1.toNat = 0 ∧ 0 ≤ x2 ∧ x2 ≤ 63 ∧ 0 ≤ x3 ∧ x3 ≤ 3 ∧ 0 ≤ x4 ∧ x4 ≤ 3) → wp_X12_fall σ x1 x2 x3 x4 x5 (fun r2 σ2 => r2 = -1 ∧ Inv (n + 1) σ2) := by
    intro hc τ eτ
    have t1 : τ 12 0 60 = σ 12 0 60 := by rw [eτ, rs_eq, up_ne (by decide)]
    have t129 : τ 129 = σ 129 := by rw [eτ, rs_ne (by decide)]
    have hi : Inv (n + 1) τ := by rw [eτ]; exact hi0
    unfold wp_X12_isCrew wp_X12_isCell wp_X12_isStem
    refine wi_m h1 in0 ⟨by omega, by omega⟩ (fun a b => ⟨Or.inr rfl, in1, fun c => absurd c (by decide), fun _ => ⟨by omega, by omega, ?_⟩⟩) (fun a => ⟨Or.inl rfl, in0, fun _ => ⟨rfl, hi⟩, fun c => absurd rfl c⟩)
    have c8 := (cr2 x1.toNat (by omega)).2.2
    rw [t129]
    refine ⟨⟨by omega, by omega⟩, fun _ => ⟨rfl, hi⟩, fun gl => ?_⟩
    refine wi_m h2 in0 ⟨by decide, by decide⟩ (fun a2 b2 => ⟨Or.inr rfl, in1, fun c => absurd c (by decide), fun _ => ?_⟩) (fun a => ⟨Or.inl rfl, in0, fun _ => ⟨rfl, hi⟩, fun c => absurd rfl c⟩)
    refine wi_m h3 in0 ⟨by decide, by decide⟩ (fun a3 b3 => ⟨in1, fun c => absurd c (by decide), fun _ => ?_⟩) (fun a => ⟨in0, fun _ => ⟨in0, fun c => absurd rfl c, fun _ => ⟨rfl, hi⟩⟩, fun c => absurd rfl c⟩)
    refine wi_m h4 in0 ⟨by decide, by decide⟩ (fun a4 b4 => absurd ⟨a, by omega, gl, a2, b2, a3, b3, a4, b4⟩ hc) (fun a => ⟨in0, fun _ => ⟨in0, fun c => absurd rfl c, fun _ => ⟨rfl, hi⟩⟩, fun c => absurd rfl c⟩)
  unfold wp_X11_fall wp_X11_isCell wp_X11_isStem wp_X3_stemPlace
  refine crewAt_x a_crews h1 (fun u1 u2 => ?_) (fun u => hno (by omega))
  obtain ⟨j, rfl⟩ : ∃ j : Nat, x1 = j := ⟨x1.toNat, by omega⟩
  rw [Int.toNat_natCast]
  obtain ⟨⟨c1, c2⟩, ⟨c3, c4, c5, c6, c7⟩, c8⟩ := cr2 j u2
  try dsimp only
  rw [c7]
  refine ⟨c2, ⟨by omega, by omega⟩, fun z => hno (fun y => z (by have := y.2.2.1; rw [Int.toNat_natCast] at this; exact this)), fun gl => ?_⟩
  refine wi_x h2 in0 ⟨by decide, by decide⟩ (fun a2 b2 => ⟨Or.inr rfl, in1, fun c => absurd c (by decide), fun _ => ?_⟩) (fun a => ⟨Or.inl rfl, in0, fun _ => hno (fun y => a ⟨y.2.2.2.1, y.2.2.2.2.1⟩), fun c => absurd rfl c⟩)
  refine wi_x h3 in0 ⟨by decide, by decide⟩ (fun a3 b3 => ⟨in1, fun c => absurd c (by decide), fun _ => ?_⟩) (fun a => ⟨in0, fun _ => ⟨in0, fun c => absurd rfl c, fun _ => hno (fun y => a ⟨y.2.2.2.2.2.1, y.2.2.2.2.2.2.1⟩)⟩, fun c => absurd rfl c⟩)
  refine wi_x h4 in0 ⟨by decide, by decide⟩ (fun a4 b4 => ⟨in1, fun c => absurd c (by decide), fun _ => ⟨in1, fun _ => ?_, fun c => absurd c (by decide)⟩⟩) (fun a => ⟨in0, fun _ => ⟨in0, fun c => absurd rfl c, fun _ => hno (fun y => a ⟨y.2.2.2.2.2.2.2.1, y.2.2.2.2.2.2.2.2⟩)⟩, fun c => absurd rfl c⟩)
  clear hno
  obtain ⟨c, rfl⟩ : ∃ c : Nat, x2 = c := ⟨x2.toNat, by omega⟩
  rw [Int.toNat_natCast] at lb
  have ep : Int.toNat ((c : Int) * 16 + x3 * 4 + x4) = 16 * c + 4 * x3.toNat + x4.toNat := by omega
  have ep2 : Int.toNat (16 * (c : Int) + 4 * x3 + x4) = 16 * c + 4 * x3.toNat + x4.toNat := by omega
  try dsimp only
  rw [ep]
  refine ⟨by omega, by omega, ⟨by omega, by omega⟩, fun gs => ?_, fun gs => ?_⟩
  · refine qx_cut hI0 ⟨a2, b2⟩ (fun fc hfc => ?_)
    have hF := FcCut_in hI0 hfc h1 ⟨a2, b2⟩ h3 h4
    refine qx_bar hI0 in0 hF (fun r hr => ?_)
    obtain ⟨pay, hpay⟩ := NumF_ex (f := fc) (verb := 1) hI0
    have rb := barF_b (LawX.of a_law) hr
    have gs2 : ¬ σ 85 0 (Int.toNat (16 * (c : Int) + 4 * x3 + x4)) = 0 := by rw [ep2, l3]; exact gs
    have mq : ∀ (s : St) (P : Int → St → Prop), MEq σ (st s 12 0 0 0) → (¬ r = -1 → ∀ g, P (-3) (sta (st s 12 0 0 0) 119 0 g)) → (r = -1 → ¬ x5 = 0 → ∀ g, wp_X12_lays (sta (st s 12 0 0 0) 119 0 g) x3 x4 x5 (fun r_62 σ_61 => inR r_62 ∧ (¬ r_62 = 0 → wp_X12_fall_117 P σ_61 j c x3 x4 pay) ∧ (r_62 = 0 → P (-4) σ_61))) → (r = -1 → x5 = 0 → ∀ g, wp_X12_bucks (sta (st s 12 0 0 0) 119 0 g) x3 x4 (fun r_66 σ_65 => wp_X12_fall_117 P σ_65 j c x3 x4 pay)) → wp_X12_fall s j c x3 x4 x5 P := fun s P em q3 qL qB => fall_ref hI0 em ⟨u1, u2⟩ (by rw [Int.toNat_natCast]; exact gl) ⟨a2, b2⟩ ⟨a3, b3⟩ ⟨a4, b4⟩ gs2 h5 hfc hr hpay q3 qL qB
    obtain ⟨A, eA⟩ : ∃ A : St, A = sta σ 75 0 fc := ⟨_, rfl⟩
    rw [← eA]
    have aK : ∀ k, ¬ k = 75 → A k = σ k := fun k z => by rw [eA, ra_ne z]
    have a75 : A 75 0 = fc := by rw [eA, ra_eq]
    refine ⟨⟨by omega, by omega⟩, fun er => ⟨h5, fun n5 => ?_, fun z5 => ?_⟩, fun er => ?_⟩
    · refine sx_chooseRow ⟨a3, b3⟩ ⟨a4, b4⟩ (by rw [aK 33 (by decide)]; exact lp) h5 (fun d1 d2 hg f hf => ?_) (fun z f => ?_)
      · obtain ⟨T, eT⟩ : ∃ T : St, T = st (sta (st A 0 0 4 0) 23 0 f) 0 0 4 (ndg 10 x5) := ⟨_, rfl⟩
        rw [← eT]
        have tK : ∀ k, ¬ k = 0 → ¬ k = 23 → ¬ k = 75 → T k = σ k := fun k z1 z2 z3 => by rw [eT, rs_ne z1, ra_ne z2, rs_ne z1, aK k z3]
        have fb := figs_b hg hf
        have wb := wsum_b (p := A 20 0) (tp := A 33 0) ⟨a3, b3⟩ ⟨a4, b4⟩ (by rw [aK 33 (by decide)]; exact lp) (by rw [aK 20 (by decide)]; exact p2) (show (ndg 10 x5).toNat ≤ 5 by omega) fb (ndg 10 x5).toNat (Nat.le_refl _)
        by_cases fits : sumv f (ndg 10 x5).toNat ≤ 4 + 2 * x4
        · rw [if_pos fits]
          refine fall_both (m := (ndg 10 x5).toNat) (f := f) (fc := fc) hI0 u2 (fun k z0 _ _ z23 z75 => tK k z0 z23 z75) (by rw [eT, rs_eq, up_eq]; omega) (by rw [eT, rs_ne (by decide), ra_eq]) (by rw [eT, rs_ne (by decide), ra_ne (by decide), rs_ne (by decide), a75]) hF hpay (by omega) (by omega) fb (by omega) ⟨a3, b3⟩ ⟨a4, b4⟩ ⟨by omega, by omega⟩ (by omega) (by omega) (fun s P em ok => ?_)
          refine mq s P em (fun z => absurd er z) (fun _ _ g => ?_) (fun _ z => absurd z n5)
          refine sm_laysR (s := x3) ⟨a4, b4⟩ h5 (fun _ _ _ f' hf' => ?_) (fun z => absurd ⟨d1, d2, hg⟩ z)
          have ef := figs_u hf hf'
          rw [show sumv f' (ndg 10 x5).toNat = sumv f (ndg 10 x5).toNat from sumv_congr ef, if_pos fits]
          refine ⟨in1, fun _ => ok _ (fun k z12 z93 z94 z119 => ?_) (fun i z0 z15 => ?_) ?_ (fun i hi => ?_), fun z => absurd z (by decide)⟩
          · rw [rs_ne z12, ra_ne z93, rs_ne z12, ra_ne z119, rs_ne z12]
          · rw [rs_eq, up_ne z15, ra_ne (by decide), rs_eq, up_ne z15, ra_ne (by decide), rs_eq, up_ne z0]
          · rw [rs_eq, up_eq]
            omega
          · rw [rs_ne (by decide), ra_eq]
            exact ef i hi
        · rw [if_neg fits]
          unfold wp_X11_fall_128
          refine ⟨⟨by decide, by decide⟩, fun z => absurd rfl z, fun _ => ?_⟩
          refine mq T _ ⟨fun i hi => by rw [rs_eq, up_ne hi, tK 12 (by decide) (by decide) (by decide)], fun k z1 z2 => by rw [rs_ne (by omega), tK k (by omega) (by omega) (by omega)]⟩ (fun z => absurd er z) (fun _ _ g => ?_) (fun _ z => absurd z n5)
          refine sm_laysR (s := x3) ⟨a4, b4⟩ h5 (fun _ _ _ f' hf' => ?_) (fun z => absurd ⟨d1, d2, hg⟩ z)
          have ef := figs_u hf hf'
          rw [show sumv f' (ndg 10 x5).toNat = sumv f (ndg 10 x5).toNat from sumv_congr ef, if_neg fits]
          refine ⟨in0, fun z => absurd rfl z, fun _ => ⟨rfl, Inv_scr hI0 (fun k z0 z12 z21 z22 z23 z75 z93 z94 z119 => ?_) (fun i z0 z15 => ?_)⟩⟩
          · rw [rs_ne z12, ra_ne z93, rs_ne z12, ra_ne z119, rs_ne z12, tK k z0 z23 z75]
          · rw [rs_eq, up_ne z15, ra_ne (by decide), rs_eq, up_ne z15, ra_ne (by decide), rs_eq, up_ne z0, tK 12 (by decide) (by decide) (by decide)]
      · obtain ⟨T, eT⟩ : ∃ T : St, T = sta (st A 0 0 4 0) 23 0 f := ⟨_, rfl⟩
        rw [← eT]
        have tK : ∀ k, ¬ k = 0 → ¬ k = 23 → ¬ k = 75 → T k = σ k := fun k z1 z2 z3 => by rw [eT, ra_ne z2, rs_ne z1, aK k z3]
        unfold wp_X11_fall_128
        refine ⟨⟨by decide, by decide⟩, fun z => absurd rfl z, fun _ => ?_⟩
        refine mq T _ ⟨fun i hi => by rw [rs_eq, up_ne hi, tK 12 (by decide) (by decide) (by decide)], fun k z1 z2 => by rw [rs_ne (by omega), tK k (by omega) (by omega) (by omega)]⟩ (fun z => absurd er z) (fun _ _ g => ?_) (fun _ z => absurd z n5)
        refine sm_laysR (s := x3) ⟨a4, b4⟩ h5 (fun d1 d2 hg => absurd ⟨d1, d2, hg⟩ z) (fun _ f' => ⟨in0, fun z => absurd rfl z, fun _ => ⟨rfl, Inv_scr hI0 (fun k z0 z12 z21 z22 z23 z75 z93 z94 z119 => ?_) (fun i z0 z15 => ?_)⟩⟩)
        · rw [rs_ne z12, ra_ne z93, rs_ne z12, ra_ne z119, rs_ne z12, tK k z0 z23 z75]
        · rw [rs_eq, up_ne z15, ra_ne (by decide), rs_eq, up_ne z15, ra_ne (by decide), rs_eq, up_ne z0, tK 12 (by decide) (by decide) (by decide)]
    · refine sx_chooseBest (all := (4 + 2 * x4).toNat) ⟨a3, b3⟩ ⟨a4, b4⟩ (by rw [aK 33 (by decide)]; exact lp) (by rw [aK 20 (by decide)]; exact p2) (by omega) (fun F G f m hB hP => ?_)
      rw [aK 20 (by decide), aK 33 (by decide)] at hB
      obtain ⟨T, eT⟩ : ∃ T : St, T = st (sta (sta (sta A 21 0 F) 22 0 G) 23 0 f) 0 0 4 m := ⟨_, rfl⟩
      rw [← eT]
      have pb := Pcs_b (fun a ha => (hB a ha).2) hP (by omega)
      have m5 := hP.1
      have fb := B_b p2 (fun i z1 z2 => by
        have := wdv_b (tp := σ 33 0) (s := x3) (k := x4) (u := (i : Int)) ⟨a3, b3⟩ ⟨a4, b4⟩ (lp x3.toNat (by omega)) (by omega)
        omega) (fun a ha => (hB a ha).1) (4 + 2 * x4).toNat 0 (by omega)
      refine fall_both (m := m) (f := f) (fc := fc) hI0 u2 (fun k z0 z21 z22 z23 z75 => by rw [eT, rs_ne z0, ra_ne z23, ra_ne z22, ra_ne z21, aK k z75]) (by rw [eT, rs_eq, up_eq]) (by rw [eT, rs_ne (by decide), ra_eq]) (by rw [eT, rs_ne (by decide), ra_ne (by decide), ra_ne (by decide), ra_ne (by decide), a75]) hF hpay m5 pb.1 pb.2 (by omega) ⟨a3, b3⟩ ⟨a4, b4⟩ ⟨by omega, by omega⟩ (by omega) (by omega) (fun s P em ok => ?_)
      refine mq s P em (fun z => absurd er z) (fun _ z => absurd z5 z) (fun _ _ g => ?_)
      have s87 : sta (st s 12 0 0 0) 119 0 g 87 0 = σ 33 0 := by rw [ra_ne (by decide), em.2 87 (by decide) (by decide), l5]
      have s92 : sta (st s 12 0 0 0) 119 0 g 92 0 = σ 20 0 := by rw [ra_ne (by decide), em.2 92 (by decide) (by decide), p1]
      refine sm_bucks (all := (4 + 2 * x4).toNat) ⟨a3, b3⟩ ⟨a4, b4⟩ (by rw [s87]; exact lp) (by rw [s92]; exact p2) (by omega) (fun F' G' f' m' hB' hP' => ?_)
      rw [s87, s92] at hB'
      obtain ⟨e1, e2, e3⟩ := bk_eq hB hB' hP hP'
      subst e2
      refine ok _ (fun k z12 z93 z94 z119 => ?_) (fun i z0 z15 => ?_) ?_ (fun i hi => ?_)
      · rw [rs_ne z12, ra_ne z93, ra_ne z94, ra_ne z119, rs_ne z12]
      · rw [rs_eq, up_ne z15, ra_ne (by decide), ra_ne (by decide), ra_ne (by decide), rs_eq, up_ne z0]
      · rw [rs_eq, up_eq]
      · rw [rs_ne (by decide), ra_eq]
        exact e3 i hi
    · refine mq A _ ⟨fun i hi => by rw [rs_eq, up_ne hi, aK 12 (by decide)], fun k z1 z2 => by rw [rs_ne (by omega), aK k (by omega)]⟩ (fun _ g => ⟨rfl, ?_⟩) (fun z => absurd z er) (fun z => absurd z er)
      rw [eA]
      exact Inv_q hI0
  · intro τ eτ
    have t1 : τ 12 0 60 = σ 12 0 60 := by rw [eτ, rs_eq, up_ne (by decide)]
    have t129 : τ 129 = σ 129 := by rw [eτ, rs_ne (by decide)]
    have t85 : τ 85 = σ 85 := by rw [eτ, rs_ne (by decide)]
    have hi : Inv (n + 1) τ := by rw [eτ]; exact hi0
    unfold wp_X12_isCrew wp_X12_isCell wp_X12_isStem wp_X12_stemAt
    refine wi_m h1 in0 ⟨by omega, by omega⟩ (fun a b => ⟨Or.inr rfl, in1, fun c => absurd c (by decide), fun _ => ⟨by omega, by omega, ?_⟩⟩) (fun a => absurd (by omega) a)
    rw [t129, Int.toNat_natCast, gl]
    refine ⟨in0, fun z => absurd rfl z, fun _ => ?_⟩
    refine wi_m h2 in0 ⟨by decide, by decide⟩ (fun _ _ => ⟨Or.inr rfl, in1, fun c => absurd c (by decide), fun _ => ?_⟩) (fun a => absurd (by omega) a)
    refine wi_m h3 in0 ⟨by decide, by decide⟩ (fun _ _ => ⟨in1, fun c => absurd c (by decide), fun _ => ?_⟩) (fun a => absurd (by omega) a)
    refine wi_m h4 in0 ⟨by decide, by decide⟩ (fun _ _ => ⟨in1, fun c => absurd c (by decide), fun _ => ⟨in1, fun _ => ?_, fun c => absurd c (by decide)⟩⟩) (fun a => absurd (by omega) a)
    try dsimp only
    rw [t85, ep2, l3, gs]
    exact ⟨by omega, by omega, in0, fun z => absurd rfl z, fun _ => ⟨rfl, hi⟩⟩
