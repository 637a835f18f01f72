/-! fire: how it spreads, and the reference -/
def wa (w : Int) (a b : Nat) : Int := if w = 0 then (b : Int) % 8 - (a : Int) % 8 else if w = 1 then -((b : Int) % 8 - (a : Int) % 8) else if w = 2 then (b : Int) / 8 - (a : Int) / 8 else -((b : Int) / 8 - (a : Int) / 8)
def fuv (h sl stm : Nat → Int) (dry w : Int) (a b : Nat) : Int := sl b + Int.tdiv (stm b) 10 + 5 * dry + 8 * wa w a b + (if h b ≤ h a then 0 else 4)
def Cat (h sl stm : Nat → Int) (dry w : Int) (a b : Nat) : Prop := apv a b = 1 ∧ ¬ sl b + stm b = 0 ∧ 20 ≤ fuv h sl stm dry w a b
def stm (f : Nat → Int) (b : Nat) : Int := sumv (fun i => f (16 * b + i)) 16
/-- a step of the fire under way: R before it, P what has kindled -/
def FI (R : Nat → Int) (s : Int) (P : Nat → Nat → Prop) (f : Nat → Int) : Prop := ∀ c, c < 64 → (¬ R c = -1 ∧ f c = R c) ∨ (R c = -1 ∧ f c = s ∧ ∃ a, P a c) ∨ (R c = -1 ∧ f c = -1 ∧ ∀ a, ¬ P a c)
theorem FI_mono {R f : Nat → Int} {s : Int} {P P' : Nat → Nat → Prop} (h : FI R s P f) (hp : ∀ a c, c < 64 → (P' a c ↔ P a c)) : FI R s P' f := by
  intro c hc
  rcases h c hc with z | ⟨z1, z2, a, z3⟩ | ⟨z1, z2, z3⟩
  · exact Or.inl z
  · exact Or.inr (Or.inl ⟨z1, z2, a, (hp a c hc).2 z3⟩)
  · exact Or.inr (Or.inr ⟨z1, z2, fun a y => z3 a ((hp a c hc).1 y)⟩)
theorem FI_seen {R f : Nat → Int} {s : Int} {a b : Nat} {P P' : Nat → Nat → Prop} (h : FI R s P f) (hf : ¬ f b = -1) (hp : ∀ a' c, c < 64 → (P' a' c ↔ P a' c ∨ (a' = a ∧ c = b))) : FI R s P' f := by
  intro c hc
  rcases h c hc with z | ⟨z1, z2, a', z3⟩ | ⟨z1, z2, z3⟩
  · exact Or.inl z
  · exact Or.inr (Or.inl ⟨z1, z2, a', (hp a' c hc).2 (Or.inl z3)⟩)
  · refine Or.inr (Or.inr ⟨z1, z2, fun a' y => ?_⟩)
    rcases (hp a' c hc).1 y with w | w
    · exact z3 a' w
    · rw [w.2] at z2
      exact hf z2
theorem FI_hit {R f : Nat → Int} {s : Int} {a b : Nat} {P P' : Nat → Nat → Prop} (h : FI R s P f) (hf : f b = -1) (hp : ∀ a' c, c < 64 → (P' a' c ↔ P a' c ∨ (a' = a ∧ c = b))) : FI R s P' (up f b s) := by
  intro c hc
  by_cases e : c = b
  · rw [e, up_eq]
    rw [e] at hc
    rcases h b hc with ⟨z1, z2⟩ | ⟨z1, z2, a', z3⟩ | ⟨z1, z2, z3⟩
    · rw [hf] at z2
      exact absurd z2.symm z1
    · exact Or.inr (Or.inl ⟨z1, rfl, a', (hp a' b hc).2 (Or.inl z3)⟩)
    · exact Or.inr (Or.inl ⟨z1, rfl, a, (hp a b hc).2 (Or.inr ⟨rfl, rfl⟩)⟩)
  · rw [up_ne e]
    rcases h c hc with z | ⟨z1, z2, a', z3⟩ | ⟨z1, z2, z3⟩
    · exact Or.inl z
    · exact Or.inr (Or.inl ⟨z1, z2, a', (hp a' c hc).2 (Or.inl z3)⟩)
    · refine Or.inr (Or.inr ⟨z1, z2, fun a' y => ?_⟩)
      rcases (hp a' c hc).1 y with w | w
      · exact z3 a' w
      · exact e w.2
theorem FI_uni {R f f' : Nat → Int} {s : Int} {P P' : Nat → Nat → Prop} (h : FI R s P f) (h' : FI R s P' f') (hp : ∀ c, c < 64 → R c = -1 → ((∃ a, P' a c) ↔ ∃ a, P a c)) : ∀ c, c < 64 → f' c = f c := by
  intro c hc
  rcases h c hc with ⟨z1, z2⟩ | ⟨z1, z2, z3⟩ | ⟨z1, z2, z3⟩ <;> rcases h' c hc with ⟨y1, y2⟩ | ⟨y1, y2, y3⟩ | ⟨y1, y2, y3⟩
  · rw [z2, y2]
  · exact absurd y1 z1
  · exact absurd y1 z1
  · exact absurd z1 y1
  · rw [z2, y2]
  · obtain ⟨a, y⟩ := (hp c hc z1).2 z3
    exact absurd y (y3 a)
  · exact absurd z1 y1
  · obtain ⟨a, y⟩ := (hp c hc z1).1 y3
    exact absurd y (z3 a)
  · rw [z2, y2]
/-- what the reference needs -/
def FiR (σ : St) : Prop := SkyR (σ 12 0 1) (σ 12 0 8) (σ 88 0) ∧ (0 ≤ weaM σ 2 ∧ weaM σ 2 ≤ 9) ∧ (∀ i, 0 ≤ σ 83 0 i ∧ σ 83 0 i ≤ 40) ∧ (∀ i, 0 ≤ σ 84 0 i ∧ σ 84 0 i ≤ 900) ∧ ∀ i, 0 ≤ σ 85 0 i ∧ σ 85 0 i ≤ 200
def CatR (σ : St) (w : Int) : Nat → Nat → Prop := Cat (σ 83 0) (σ 84 0) (stm (σ 85 0)) (weaM σ 2) w
theorem FiR_sta {σ : St} {f : Nat → Int} (h : FiR σ) : FiR (sta σ 141 0 f) := by
  unfold FiR
  rw [weaM_st (by decide) (by decide) (by decide) (by decide) (by decide), ra_ne (by decide), ra_ne (by decide), ra_ne (by decide), ra_ne (by decide), ra_ne (by decide)]
  exact h
theorem CatR_sta {σ : St} {f : Nat → Int} {w : Int} : CatR (sta σ 141 0 f) w = CatR σ w := by
  unfold CatR
  rw [weaM_st (by decide) (by decide) (by decide) (by decide) (by decide), ra_ne (by decide), ra_ne (by decide), ra_ne (by decide)]
theorem wa_b {w : Int} {a b : Nat} (ha : a < 64) (hb : b < 64) : -7 ≤ wa w a b ∧ wa w a b ≤ 7 := by
  unfold wa
  split
  · omega
  · split
    · omega
    · split <;> omega
theorem stm_b {f : Nat → Int} (h : ∀ i, 0 ≤ f i ∧ f i ≤ 200) (b : Nat) : 0 ≤ stm f b ∧ stm f b ≤ 3200 := sumv_b (f := fun i => f (16 * b + i)) (B := 200) (fun i => h _) 16
theorem sm_fuel {σ : St} {a b : Nat} {w : Int} {Q : Int → St → Prop} (hF : FiR σ) (ha : a < 64) (hb : b < 64) (hw : 0 ≤ w ∧ w ≤ 3) (q : Q (fuv (σ 83 0) (σ 84 0) (stm (σ 85 0)) (weaM σ 2) w a b) σ) : wp_X12_fuel σ a b w Q := by
  obtain ⟨f1, f2, f3, f4, f5⟩ := hF
  have sb := stm_b f5 b
  have h3a := f3 a
  have h3b := f3 b
  unfold fuv at q
  have go : ∀ y : Int, y = wa w a b → wp_X12_fuel_55 Q σ a b y := by
    intro y ey
    unfold wp_X12_fuel_55
    rw [Int.toNat_natCast, Int.toNat_natCast, ey]
    refine ⟨by omega, by omega, sm_stemsOf hb ⟨⟨by unfold stm at sb; omega, by unfold stm at sb; omega⟩, sm_skyn f1 (by decide) (by decide) ⟨by omega, by omega, by omega, by omega, ⟨by omega, by omega⟩, ⟨by omega, by omega⟩, fun c => ?_, fun c => ?_⟩⟩⟩
    · rw [if_pos c] at q
      exact q
    · rw [if_neg c] at q
      exact q
  unfold wp_X12_fuel wp_X12_xOf wp_X12_yOf
  rw [tmn (show (0 : Int) ≤ a by omega), tmn (show (0 : Int) ≤ b by omega), tdn (show (0 : Int) ≤ a by omega), tdn (show (0 : Int) ≤ b by omega)]
  have iw : inR w := ⟨by omega, by omega⟩
  refine ⟨⟨by omega, by omega⟩, ⟨by omega, by omega⟩, fun v1 e1 => ⟨⟨by omega, by omega⟩, ⟨by omega, by omega⟩, fun v2 e2 => ⟨iw, fun c0 => ⟨iw, fun c1 => ⟨iw, fun c2 => go _ ?_, fun c2 => go _ ?_⟩, fun c1 => go _ ?_⟩, fun c0 => go _ ?_⟩⟩⟩
  all_goals unfold wa
  · rw [if_neg c0, if_neg c1, if_neg c2, e2]
  · rw [if_neg c0, if_neg c1, if_pos c2, e2]
  · rw [if_neg c0, if_pos c1, e1]
  · rw [if_pos c0, e1]
def Pab (R : Nat → Int) (C : Nat → Nat → Prop) (a b : Nat) : Nat → Nat → Prop := fun a' c => (a' < a ∨ (a' = a ∧ c < b)) ∧ ¬ R a' = -1 ∧ C a' c
theorem fb_loop {σ : St} {R : Nat → Int} {s a : Nat} {w m : Int} {K : St → Int → Int → Int → Int → Prop} {Q : Int → St → Prop} (hF : FiR σ) (hw : 0 ≤ w ∧ w ≤ 3) (ha : a < 64) (hR : ∀ c, c < 64 → -1 ≤ R c ∧ R c < s) (hs : s ≤ 20) (hx : ¬ R a = -1) (q : ∀ f, FI R s (Pab R (CatR σ w) (a + 1) 0) f → K (sta σ 141 0 f) w m s a) :
    ∀ (k b n : Nat) (f : Nat → Int), b + k = 64 → k < n → FI R s (Pab R (CatR σ w) a b) f → wp_X12_fires_79 K Q n (sta σ 141 0 f) w m s a b := by
  intro k
  induction k with
  | zero =>
    intro b n f hb hn hf
    obtain ⟨n, rfl⟩ : ∃ n', n = n' + 1 := ⟨n - 1, by omega⟩
    unfold wp_X12_fires_79
    refine ⟨⟨by omega, by omega⟩, fun _ => q f (FI_mono hf (fun a' c hc => ?_)), fun z => absurd (by omega) z⟩
    unfold Pab
    constructor
    · rintro ⟨y1, y2⟩
      exact ⟨by omega, y2⟩
    · rintro ⟨y1, y2⟩
      exact ⟨by omega, y2⟩
  | succ k ih =>
    intro b n f hb hn hf
    obtain ⟨n, rfl⟩ : ∃ n', n = n' + 1 := ⟨n - 1, by omega⟩
    have hb2 : b < 64 := by omega
    have nx := fun f hf => ih (b + 1) n f (by omega) (by omega) hf
    have fb : -1 ≤ f b ∧ f b ≤ 20 := by
      have r := hR b hb2
      rcases hf b hb2 with ⟨-, z⟩ | ⟨-, z, -⟩ | ⟨-, z, -⟩ <;> omega
    have P1 : CatR σ w a b → ∀ a' c, c < 64 → (Pab R (CatR σ w) a (b + 1) a' c ↔ Pab R (CatR σ w) a b a' c ∨ (a' = a ∧ c = b)) := by
      intro hC a' c hc
      unfold Pab
      constructor
      · rintro ⟨y1, y2⟩
        by_cases e : a' = a ∧ c = b
        · exact Or.inr e
        · exact Or.inl ⟨by omega, y2⟩
      · rintro (⟨y1, y2⟩ | ⟨rfl, rfl⟩)
        · exact ⟨by omega, y2⟩
        · exact ⟨by omega, hx, hC⟩
    have P0 : ¬ CatR σ w a b → ∀ a' c, c < 64 → (Pab R (CatR σ w) a (b + 1) a' c ↔ Pab R (CatR σ w) a b a' c) := by
      intro hC a' c hc
      unfold Pab
      constructor
      · rintro ⟨y1, y2⟩
        by_cases e : a' = a ∧ c = b
        · rw [e.1, e.2] at y2
          exact absurd y2.2 hC
        · exact ⟨by omega, y2⟩
      · rintro ⟨y1, y2⟩
        exact ⟨by omega, y2⟩
    have no : ¬ CatR σ w a b → wp_X12_fires_150 (fun σ x2 x3 x4 x5 x6 => wp_X12_fires_79 K Q n σ x2 x3 x4 x5 x6) K Q (sta σ 141 0 f) w m s a b := by
      intro hC
      exact nx f (FI_mono hf (P0 hC))
    have r141 : sta σ 141 0 f 141 0 = f := ra_eq
    have r84 : sta σ 141 0 f 84 = σ 84 := ra_ne (by decide)
    have r85 : sta σ 141 0 f 85 = σ 85 := ra_ne (by decide)
    have r83 : sta σ 141 0 f 83 = σ 83 := ra_ne (by decide)
    have rw2 : weaM (sta σ 141 0 f) 2 = weaM σ 2 := weaM_st (by decide) (by decide) (by decide) (by decide) (by decide)
    obtain ⟨f1, f2, f3, f4, f5⟩ := id hF
    have sb := stm_b f5 b
    have lb := f4 b
    unfold wp_X12_fires_79
    rw [Int.toNat_natCast, r141]
    refine ⟨⟨by omega, by omega⟩, fun z => absurd z (by omega), fun _ => ⟨by omega, by omega, ⟨by omega, by omega⟩, fun y => ?_, fun y => ?_⟩⟩
    · by_cases hC : CatR σ w a b
      · exact nx f (FI_seen hf y (P1 hC))
      · exact no hC
    · refine sm_areBeside (by omega) (by omega) (by omega) (by omega) (fun ap => ⟨in1, fun z => absurd z (by decide), fun _ => ⟨by omega, by omega, ?_⟩⟩) (fun ap => ⟨in0, fun _ => no (fun z => ap z.1), fun c => absurd rfl c⟩)
      refine sm_stemsOf hb2 ?_
      rw [r84, r85]
      refine ⟨⟨by unfold stm at sb; omega, by unfold stm at sb; omega⟩, fun z => no (fun u => u.2.1 z), fun z => ?_⟩
      refine sm_fuel (FiR_sta hF) ha hb2 hw ?_
      rw [r83, r84, r85, rw2]
      have wb := wa_b (w := w) ha hb2
      have eb := Int.tdiv_eq_ediv_of_nonneg (a := stm (σ 85 0) b) (b := 10) sb.1
      have vb : inR (fuv (σ 83 0) (σ 84 0) (stm (σ 85 0)) (weaM σ 2) w a b) := by
        unfold fuv
        rw [eb]
        split <;> exact ⟨by omega, by omega⟩
      refine ⟨vb, fun c => ⟨by omega, by omega, fun s1 e1 => ?_⟩, fun c => no (fun u => c u.2.2)⟩
      rw [st_stae] at e1
      rw [e1]
      exact nx _ (FI_hit hf y (P1 ⟨ap, z, c⟩))
