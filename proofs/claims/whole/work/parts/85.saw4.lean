/-! how a log is sawn: the reference's boards -/
theorem KAt_ex {N : Nat} {Ok : Nat → Nat → Prop} {val : (Nat → Int) → Nat → Nat → Int} {b : Nat → Int} {p : Nat} : ∃ g, KAt N Ok val b p g := by
  by_cases c : ∃ o, o < N ∧ Ok o p ∧ val b o p = b p
  · obtain ⟨o, o1, o2, o3⟩ := c
    have : ∀ d o, o = d → o < N → Ok o p → val b o p = b p → ∃ g, KAt N Ok val b p g := by
      intro d
      induction d using Nat.strongRecOn with
      | ind d ih =>
        intro o e o1 o2 o3
        by_cases z : ∃ o', o' < o ∧ Ok o' p ∧ val b o' p = b p
        · obtain ⟨o', z1, z2, z3⟩ := z
          exact ih o' (by omega) o' rfl (by omega) z2 z3
        · exact ⟨o, Or.inr ⟨o, rfl, o1, o2, o3, fun o' y1 y2 y3 => z ⟨o', y1, y2, y3⟩⟩⟩
    exact this o o rfl o1 o2 o3
  · exact ⟨-2, Or.inl ⟨rfl, fun o y1 y2 y3 => c ⟨o, y1, y2, y3⟩⟩⟩
theorem clr_loop {σ : St} {l wd : Nat} {K : St → Int → Int → Prop} {Q : Int → St → Prop} (hw : wd ≤ 34) (q : ∀ f : Nat → Int, (∀ p, p < wd → f p = -2) → K (sta σ 140 0 f) l wd) : ∀ (c p n : Nat) (f : Nat → Int), p + c = wd → c < n → (∀ r, r < p → f r = -2) → wp_X12_lays__109 K Q n (sta σ 140 0 f) l wd p := by
  intro c
  induction c with
  | zero =>
    intro p n f hp hn hf
    obtain ⟨n, rfl⟩ : ∃ n', n = n' + 1 := ⟨n - 1, by omega⟩
    unfold wp_X12_lays__109
    exact ⟨⟨by omega, by omega⟩, ⟨by omega, by omega⟩, fun _ => q f (fun r hr => hf r (by omega)), fun z => absurd (by omega) z⟩
  | succ c ih =>
    intro p n f hp hn hf
    obtain ⟨n, rfl⟩ : ∃ n', n = n' + 1 := ⟨n - 1, by omega⟩
    unfold wp_X12_lays__109
    refine ⟨⟨by omega, by omega⟩, ⟨by omega, by omega⟩, fun z => absurd z (by omega), fun _ => ⟨by omega, by omega, fun s1 e1 => ?_⟩⟩
    rw [st_stae, Int.toNat_natCast] at e1
    rw [e1, show ((p : Int) + 1) = ((p + 1 : Nat) : Int) by omega]
    refine ih (p + 1) n _ (by omega) (by omega) (fun r hr => ?_)
    unfold up
    split
    · rfl
    · exact hf r (by omega)
theorem so_loop {S : St} {l p wd e : Nat} {K : St → Int → Int → Int → Int → Prop} {Q : Int → St → Prop} (hO : OrdR S) (hL : LgR S l wd) (hp : p < wd) (hF : ∀ i, i ≤ wd → 0 ≤ S 139 0 i ∧ S 139 0 i ≤ 100000) (he : (e : Int) ≤ S 12 0 71) (h1 : ∀ o, o < e → okR S l o p → ¬ valb (S 133 0) (S 136 0) wd (S 139 0) o p = S 139 0 p) (h2 : (e : Int) < S 12 0 71 → okR S l e p ∧ valb (S 133 0) (S 136 0) wd (S 139 0) e p = S 139 0 p) (q : K S l wd p e) :
    ∀ (c o n : Nat), o + c = e → c < n → wp_X12_lays__138 K Q n S l wd p o := by
  have hN := hO.1
  have hw := hL.2.2.2.1
  intro c
  induction c with
  | zero =>
    intro o n hi hn
    obtain ⟨n, rfl⟩ : ∃ n', n = n' + 1 := ⟨n - 1, by omega⟩
    have ee : o = e := by omega
    subst ee
    unfold wp_X12_lays__138
    refine ⟨⟨by omega, by omega⟩, ⟨by omega, by omega⟩, fun _ => q, fun z => ?_⟩
    obtain ⟨y1, y2⟩ := h2 (by omega)
    have oo := hO.2 o (by omega)
    have eb : p < afb (S 133 0) wd o p ∧ afb (S 133 0) wd o p ≤ wd := by unfold afb; omega
    have fb := hF _ eb.2
    have fp := hF p (by omega)
    have vb : valb (S 133 0) (S 136 0) wd (S 139 0) o p = S 136 0 o + S 139 0 (afb (S 133 0) wd o p) := rfl
    refine sm_canBe hO hL (by omega) (by omega) (fun _ => ⟨in1, fun z => absurd z (by decide), fun _ => ⟨by omega, by omega, sm_after hO (by omega) (by omega) (by omega) ?_⟩⟩) (fun y => absurd y1 y)
    simp only [Int.toNat_natCast]
    rw [← vb]
    exact ⟨by omega, by omega, by omega, by omega, ⟨by omega, by omega⟩, ⟨by omega, by omega⟩, fun _ => q, fun y => absurd y2 y⟩
  | succ c ih =>
    intro o n hi hn
    obtain ⟨n, rfl⟩ : ∃ n', n = n' + 1 := ⟨n - 1, by omega⟩
    have nx := ih (o + 1) n (by omega) (by omega)
    have oo := hO.2 o (by omega)
    have eb : p < afb (S 133 0) wd o p ∧ afb (S 133 0) wd o p ≤ wd := by unfold afb; omega
    have fb := hF _ eb.2
    have fp := hF p (by omega)
    have vb : valb (S 133 0) (S 136 0) wd (S 139 0) o p = S 136 0 o + S 139 0 (afb (S 133 0) wd o p) := rfl
    unfold wp_X12_lays__138 wp_X12_lays__188
    rw [show ((o : Int) + 1) = ((o + 1 : Nat) : Int) by omega]
    refine ⟨⟨by omega, by omega⟩, ⟨by omega, by omega⟩, fun z => absurd z (by omega), fun _ => sm_canBe hO hL (by omega) (by omega) (fun hy => ⟨in1, fun z => absurd z (by decide), fun _ => ⟨by omega, by omega, sm_after hO (by omega) (by omega) (by omega) ?_⟩⟩) (fun hy => ⟨in0, fun _ => nx, fun z => absurd rfl z⟩)⟩
    simp only [Int.toNat_natCast]
    rw [← vb]
    exact ⟨by omega, by omega, by omega, by omega, ⟨by omega, by omega⟩, ⟨by omega, by omega⟩, fun y => absurd y (h1 o (by omega) hy), fun _ => nx⟩
theorem wh_loop {S : St} {l wd : Nat} {G : Nat → Int} {K : St → Prop} {Q : Int → St → Prop} (hO : OrdR S) (hL : LgR S l wd) (hF : ∀ i, i ≤ wd → 0 ≤ S 139 0 i ∧ S 139 0 i ≤ 100000) (hK : ∀ p, p < wd → KAt (S 12 0 71).toNat (okR S l) (valb (S 133 0) (S 136 0) wd) (S 139 0) p (G p)) (q : ∀ f, (∀ p, p < wd → f p = bgv G (S 133 0) wd p) → K (sta S 140 0 f)) :
    ∀ (d a n : Nat) (f : Nat → Int), a + d = wd → d < n → NXT G (S 133 0) wd a = a → (∀ r, r < a → f r = bgv G (S 133 0) wd r) → (∀ r, a ≤ r → r < wd → f r = -2) → wp_X12_lays__130 K Q n (sta S 140 0 f) l wd a := by
  have hN := hO.1
  have hw := hL.2.2.2.1
  have hT : ∀ o, o < (S 12 0 71).toNat → 1 ≤ S 133 0 o := fun o ho => (hO.2 o (by omega)).1
  have hG : ∀ p, p < wd → G p = -2 ∨ (0 ≤ G p ∧ G p < (S 12 0 71).toNat) := fun p hp => KAt_b (hK p hp)
  intro d
  induction d using Nat.strongRecOn with
  | ind d ih =>
    intro a n f ha hn hx hf1 hf2
    obtain ⟨n, rfl⟩ : ∃ n', n = n' + 1 := ⟨n - 1, by omega⟩
    unfold wp_X12_lays__130
    refine ⟨⟨by omega, by omega⟩, ⟨by omega, by omega⟩, fun z => q f (fun r hr => hf1 r (by omega)), fun z => ?_⟩
    have hp : a < wd := by omega
    have r12 : sta S 140 0 f 12 = S 12 := ra_ne (by decide)
    have r133 : sta S 140 0 f 133 = S 133 := ra_ne (by decide)
    have r136 : sta S 140 0 f 136 = S 136 := ra_ne (by decide)
    have r139 : sta S 140 0 f 139 = S 139 := ra_ne (by decide)
    have ga := hG a hp
    -- what is behind a
    have nxs : NXT G (S 133 0) wd (a + 1) = nxp G (S 133 0) wd a := by
      show (if NXT G (S 133 0) wd a = a then _ else _) = _
      rw [if_pos hx]
    have nle := NXT_le (G := G) (T := S 133 0) (N := (S 12 0 71).toNat) (wd := wd) hT hG (a + 1) (by omega)
    rw [nxs] at nle
    have stay : ∀ r, a + 1 ≤ r → r ≤ nxp G (S 133 0) wd a → NXT G (S 133 0) wd r = nxp G (S 133 0) wd a := by
      intro r
      induction r with
      | zero => intro h1; omega
      | succ r ihr =>
        intro h1 h2
        by_cases e : r = a
        · rw [e]
          exact nxs
        · have := ihr (by omega) (by omega)
          show (if NXT G (S 133 0) wd r = r then _ else _) = _
          rw [this, if_neg (by omega)]
    have go : ∀ (y : Int) (s : St), s = sta S 140 0 (up f a y) → y = G a → ∀ a' : Nat, a' = nxp G (S 133 0) wd a → wp_X12_lays__130 K Q n s l wd a' := by
      intro y s es ey a' ea
      rw [es]
      refine ih (wd - a') (by omega) a' n _ (by omega) (by omega) (by rw [ea]; exact stay _ (by omega) (Nat.le_refl _)) (fun r hr => ?_) (fun r h1 h2 => ?_)
      · by_cases e : r = a
        · rw [e, up_eq, ey]
          unfold bgv
          rw [if_pos hx]
        · rw [up_ne e]
          by_cases e2 : r < a
          · exact hf1 r e2
          · rw [hf2 r (by omega) (by omega)]
            unfold bgv
            rw [stay r (by omega) (by omega), if_neg (by omega)]
      · rw [up_ne (by omega)]
        exact hf2 r (by omega) h2
    have fin : ∀ o : Nat, (o : Int) ≤ S 12 0 71 → ((o : Int) = S 12 0 71 → G a = -2) → ((o : Int) < S 12 0 71 → G a = o) → wp_X12_lays__194 (fun σ x1 x2 x3 => wp_X12_lays__130 K Q n σ x1 x2 x3) K Q (sta S 140 0 f) l wd a o := by
      intro o h1 h2 h3
      unfold wp_X12_lays__194 wp_X12_lays__215 wp_X12_lays__239
      rw [r12]
      refine ⟨⟨by omega, by omega⟩, ⟨by omega, by omega⟩, fun c => ⟨by omega, by omega, fun s1 e1 => ?_⟩, fun c => ⟨by omega, by omega, fun s1 e1 => ?_⟩⟩
      · rw [st_stae, Int.toNat_natCast] at e1
        have rs : s1 12 = S 12 := by rw [e1, ra_ne (by decide)]
        have g := h3 (by omega)
        rw [rs]
        refine ⟨⟨by omega, by omega⟩, ⟨by omega, by omega⟩, fun _ => ?_, fun y => absurd y c⟩
        refine sm_after (by rw [e1]; exact OrdR_sta (Or.inr rfl) hO) (by rw [rs]; omega) (by omega) (by omega) ?_
        have rs2 : s1 133 = S 133 := by rw [e1, ra_ne (by decide)]
        rw [rs2]
        refine go o s1 e1 g.symm _ ?_
        unfold nxp
        rw [if_neg (by omega), g, Int.toNat_natCast]
      · rw [st_stae, Int.toNat_natCast] at e1
        have rs : s1 12 = S 12 := by rw [e1, ra_ne (by decide)]
        have g := h2 c
        rw [rs]
        refine ⟨⟨by omega, by omega⟩, ⟨by omega, by omega⟩, fun y => absurd c y, fun _ => ?_⟩
        rw [show ((a : Int) + 1) = ((a + 1 : Nat) : Int) by omega]
        refine go (-2) s1 e1 g.symm _ ?_
        unfold nxp
        rw [if_pos g]
    have hO2 : OrdR (sta S 140 0 f) := OrdR_sta (Or.inr rfl) hO
    have hL2 : LgR (sta S 140 0 f) l wd := LgR_sta (Or.inr rfl) hL
    have eok : okR (sta S 140 0 f) l = okR S l := okR_sta (Or.inr rfl)
    rcases hK a hp with ⟨k1, k2⟩ | ⟨o, k1, k2, k3, k4, k5⟩
    · refine ⟨31, so_loop (e := (S 12 0 71).toNat) hO2 hL2 hp (by rw [r139]; exact hF) (by rw [r12]; omega) (fun o o1 o2 => ?_) (fun y => absurd y (by rw [r12]; omega)) (fin _ (by omega) (fun _ => k1) (fun y => absurd y (by omega))) (S 12 0 71).toNat 0 31 (by omega) (by omega)⟩
      rw [eok] at o2
      rw [r133, r136, r139]
      exact k2 o o1 o2
    · refine ⟨31, so_loop (e := o) hO2 hL2 hp (by rw [r139]; exact hF) (by rw [r12]; omega) (fun o' o1 o2 => ?_) (fun _ => ?_) (fin _ (by omega) (fun y => absurd y (by omega)) (fun _ => k1)) o 0 31 (by omega) (by omega)⟩
      · rw [eok] at o2
        rw [r133, r136, r139]
        exact k5 o' o1 o2
      · rw [eok, r133, r136, r139]
        exact ⟨k3, k4⟩
/-- the plan of a log, of the reference -/
theorem sm_plan {σ : St} {l wd : Nat} {Q : Int → St → Prop} (hO : OrdR σ) (hL : LgR σ l wd)
    (q : ∀ F G f : Nat → Int, F wd = 0 → (∀ p, p < wd → CAt (σ 12 0 71).toNat (okR σ l) (valb (σ 133 0) (σ 136 0) wd) F p ∧ KAt (σ 12 0 71).toNat (okR σ l) (valb (σ 133 0) (σ 136 0) wd) F p (G p)) → (∀ p, p < wd → f p = bgv G (σ 133 0) wd p) → Q (F 0) (sta (sta σ 139 0 F) 140 0 f)) : wp_X12_lays_ σ l Q := by
  have hN := hO.1
  obtain ⟨l1, l2, l3, l4, l5, l6, l7⟩ := id hL
  unfold wp_X12_lays_
  rw [Int.toNat_natCast]
  refine ⟨by omega, by omega, fun v ev => ?_⟩
  rw [l2] at ev
  rw [ev]
  refine ⟨by omega, by omega, fun s1 e1 v2 e2 => ⟨36, ?_⟩⟩
  rw [Int.toNat_natCast, st_sta] at e1
  rw [e1, e2]
  refine br_loop hO hL (fun F h0 hb hF => ?_) wd 36 _ (by omega) (by omega) up_eq (fun p p1 p2 => absurd p2 (by omega)) (fun i i1 i2 => by rw [show i = wd by omega, up_eq]; omega)
  obtain ⟨S, eS⟩ : ∃ S : St, S = sta σ 139 0 F := ⟨_, rfl⟩
  have rk : ∀ k, ¬ k = 139 → S k = σ k := fun k k1 => by rw [eS, ra_ne k1]
  have r139 : S 139 0 = F := by rw [eS, ra_eq]
  have hO2 : OrdR S := by rw [eS]; exact OrdR_sta (Or.inl rfl) hO
  have hL2 : LgR S l wd := by rw [eS]; exact LgR_sta (Or.inl rfl) hL
  have eok : okR S l = okR σ l := by rw [eS]; exact okR_sta (Or.inl rfl)
  have hx : ∀ p, ∃ g, KAt (σ 12 0 71).toNat (okR σ l) (valb (σ 133 0) (σ 136 0) wd) F p g := fun p => KAt_ex
  obtain ⟨G, hG⟩ : ∃ G : Nat → Int, ∀ p, KAt (σ 12 0 71).toNat (okR σ l) (valb (σ 133 0) (σ 136 0) wd) F p (G p) := ⟨fun p => Classical.choose (hx p), fun p => Classical.choose_spec (hx p)⟩
  have cl := clr_loop (σ := S) (l := l) (wd := wd) (K := wp_X12_lays__128 Q) (Q := Q) l4 (fun f hf => ?_) wd 0 36 (S 140 0) (by omega) (by omega) (fun r hr => absurd hr (by omega))
  · rw [sta_self, eS] at cl
    exact ⟨36, cl⟩
  · refine ⟨36, wh_loop (G := G) hO2 hL2 (by rw [r139]; exact fun i hi => by have := hF i hi; omega) (by rw [r139, eok, rk 12 (by decide), rk 133 (by decide), rk 136 (by decide)]; exact fun p _ => hG p) (fun f2 hf2 => ?_) wd 0 36 f (by omega) (by omega) rfl (fun r hr => absurd hr (by omega)) (fun r _ hr => hf r hr)⟩
    unfold wp_X12_lays__243
    rw [ra_ne (show ¬ 139 = 140 by decide), r139, eS]
    rw [rk 133 (by decide)] at hf2
    exact q F G f2 h0 (fun p hp => ⟨hb p hp, hG p⟩) hf2
