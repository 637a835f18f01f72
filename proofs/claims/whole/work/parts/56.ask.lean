/-! how far, what weather, what is asked of the law -/
def apv (a b : Int) : Int := max (a % 8 - b % 8) (b % 8 - a % 8) + max (a / 8 - b / 8) (b / 8 - a / 8)
theorem apv_b {a b : Int} (h1 : 0 ≤ a) (h2 : a ≤ 63) (h3 : 0 ≤ b) (h4 : b ≤ 63) : 0 ≤ apv a b ∧ apv a b ≤ 14 := by
  unfold apv
  omega
theorem tdn {a b : Int} (h : 0 ≤ a) : Int.tdiv a b = a / b := Int.tdiv_eq_ediv_of_nonneg h
theorem tmn {a b : Int} (h : 0 ≤ a) : Int.tmod a b = a % b := Int.tmod_eq_emod_of_nonneg h
theorem j_abs {σ : St} {a : Int} {Q : Int → St → Prop} (ha : inR a) (q : Q (max a (-a)) σ) : wp_J9_abs_0f7a4 σ a Q := by
  refine ⟨ha, fun c => ?_, fun c => ?_⟩
  · rw [show max a (-a) = a by omega] at q
    exact q
  · rw [show max a (-a) = -a by omega] at q
    exact q
theorem sx_apart {σ : St} {a b : Int} {Q : Int → St → Prop} (h1 : 0 ≤ a) (h2 : a ≤ 63) (h3 : 0 ≤ b) (h4 : b ≤ 63) (q : Q (apv a b) σ) : wp_X3_apart σ a b Q := by
  unfold wp_X3_apart
  rw [tmn h1, tmn h3, tdn h1, tdn h3]
  refine ⟨⟨by omega, by omega⟩, ⟨by omega, by omega⟩, j_abs ⟨by omega, by omega⟩ ⟨⟨by omega, by omega⟩, ⟨by omega, by omega⟩, j_abs ⟨by omega, by omega⟩ ?_⟩⟩
  unfold apv at q
  rw [show max (a % 8 - b % 8) (-(a % 8 - b % 8)) + max (a / 8 - b / 8) (-(a / 8 - b / 8)) = max (a % 8 - b % 8) (b % 8 - a % 8) + max (a / 8 - b / 8) (b / 8 - a / 8) by omega]
  exact q
theorem sm_apart {σ : St} {a b : Int} {Q : Int → St → Prop} (h1 : inR a) (h3 : inR b) (q : Q (max (a - b) (b - a)) σ) : wp_X12_apart σ a b Q := by
  refine ⟨h1, h3, fun c => ?_, fun c => ?_⟩
  · rw [show max (a - b) (b - a) = a - b by omega] at q
    exact q
  · rw [show max (a - b) (b - a) = b - a by omega] at q
    exact q
theorem sm_farOf {σ : St} {a : Int} {Q : Int → St → Prop} (h1 : 0 ≤ a) (h2 : a ≤ 63) (h3 : 0 ≤ σ 12 0 7) (h4 : σ 12 0 7 ≤ 63) (q : Q (apv a (σ 12 0 7)) σ) : wp_X12_farOf σ a Q := by
  have e1 : Int.tmod a 8 = a % 8 := tmn h1
  have e2 : Int.tmod (σ 12 0 7) 8 = σ 12 0 7 % 8 := tmn h3
  have e3 : Int.tdiv a 8 = a / 8 := tdn h1
  have e4 : Int.tdiv (σ 12 0 7) 8 = σ 12 0 7 / 8 := tdn h3
  refine ⟨⟨by omega, by omega⟩, ⟨by omega, by omega⟩, sm_apart ⟨by omega, by omega⟩ ⟨by omega, by omega⟩ ⟨⟨by omega, by omega⟩, ⟨by omega, by omega⟩, sm_apart ⟨by omega, by omega⟩ ⟨by omega, by omega⟩ ?_⟩⟩
  rw [e1, e2, e3, e4]
  exact q
theorem sm_areBeside {σ : St} {a b : Int} {Q : Int → St → Prop} (h1 : 0 ≤ a) (h2 : a ≤ 63) (h3 : 0 ≤ b) (h4 : b ≤ 63) (q1 : apv a b = 1 → Q 1 σ) (q0 : ¬ apv a b = 1 → Q 0 σ) : wp_X12_areBeside σ a b Q := by
  unfold wp_X12_areBeside wp_X12_xOf wp_X12_yOf
  rw [tmn h1, tmn h3, tdn h1, tdn h3]
  exact ⟨⟨by omega, by omega⟩, ⟨by omega, by omega⟩, sm_apart ⟨by omega, by omega⟩ ⟨by omega, by omega⟩ ⟨⟨by omega, by omega⟩, ⟨by omega, by omega⟩, sm_apart ⟨by omega, by omega⟩ ⟨by omega, by omega⟩ ⟨⟨by omega, by omega⟩, q0, q1⟩⟩⟩
/-- the weather by a telling, out of the class's rows -/
def svx (vals : Nat → Int) (t what : Int) : Int := if t = -1 then (if what = 0 then 0 else if what = 1 then 5 else 3) else vals (t * 3 + what).toNat
theorem svx_b {vals : Nat → Int} {t what : Int} (h : ∀ i, 0 ≤ vals i ∧ vals i ≤ 9) : 0 ≤ svx vals t what ∧ svx vals t what ≤ 9 := by
  unfold svx
  split
  · split
    · omega
    · split <;> omega
  · exact h _
theorem sx_valueOf {σ : St} {t what : Int} {Q : Int → St → Prop} (h1 : -1 ≤ t) (h2 : t < 200) (h3 : 0 ≤ what) (h4 : what ≤ 2) (q : Q (svx (σ 65 0) t what) σ) : wp_X7_valueOf σ t what Q := by
  unfold svx at q
  refine ⟨⟨by omega, by omega⟩, fun c => ⟨by omega, by omega, ?_⟩, fun c => ⟨by omega, by omega, ?_⟩⟩
  · rw [if_neg c] at q
    exact q
  · rw [if_pos c] at q
    rcases (show what = 0 ∨ what = 1 ∨ what = 2 by omega) with rfl | rfl | rfl
    · exact q
    · exact q
    · exact q
theorem sky_eq {σ : St} (h : I_sky (σ 7 0) (σ 64 0) (σ 65 0) (σ 12 0 1) (σ 12 0 8) (σ 88 0) (σ 89 0) (σ 90 0) (σ 91 0)) {t what : Int} (h1 : -1 ≤ t) (h3 : 0 ≤ what) (h4 : what ≤ 2) : skyv (σ 89 0) (σ 90 0) (σ 91 0) t what = svx (σ 65 0) t what := by
  obtain ⟨-, -, -, hv, -, -⟩ := h
  unfold skyv svx
  split
  · rfl
  · have e := hv t.toNat
    rcases (show what = 0 ∨ what = 1 ∨ what = 2 by omega) with rfl | rfl | rfl
    · rw [if_pos rfl, e.1]
      congr 1
      omega
    · rw [if_neg (by decide), if_pos rfl, e.2.1]
      congr 1
      omega
    · rw [if_neg (by decide), if_neg (by decide), e.2.2]
      congr 1
      omega
/-- today's weather, of the class -/
def wea (σ : St) (what : Int) : Int := svx (σ 65 0) (lat (σ 64 0) (σ 7 0 3) (σ 7 0 2).toNat) what
/-- the class's part of I_sky -/
def SkyX (s7 days vals : Nat → Int) : Prop := (0 ≤ s7 2 ∧ s7 2 ≤ 200 ∧ 0 ≤ s7 3 ∧ s7 3 ≤ 3999) ∧ (∀ i, 0 ≤ vals i ∧ vals i ≤ 9) ∧ s7 4 = lat days (s7 3) (s7 2).toNat
theorem SkyX.of {s7 days vals : Nat → Int} {now tel : Int} {tD tS tW tY : Nat → Int} (h : I_sky s7 days vals now tel tD tS tW tY) : SkyX s7 days vals := ⟨h.2.1, h.2.2.2.2.1, h.2.2.2.2.2⟩
theorem sx_now {σ : St} {what : Int} {Q : Int → St → Prop} (h : SkyX (σ 7 0) (σ 64 0) (σ 65 0)) (h3 : 0 ≤ what) (h4 : what ≤ 2) (q : Q (wea σ what) σ) : wp_X7_now σ what Q := by
  obtain ⟨k1, -, k3⟩ := h
  have b := lat_b (σ 64 0) (σ 7 0 3) (σ 7 0 2).toNat
  unfold wp_X7_now
  rw [k3]
  exact sx_valueOf (by omega) (by omega) h3 h4 q
/-- today's weather, of the reference -/
def weaM (σ : St) (what : Int) : Int := skyv (σ 89 0) (σ 90 0) (σ 91 0) (lat (σ 88 0) (σ 12 0 1) (σ 12 0 8).toNat) what
def SkyR (now tel : Int) (tD : Nat → Int) : Prop := (0 ≤ tel ∧ tel ≤ 200 ∧ 0 ≤ now ∧ now ≤ 3999) ∧ ∀ i, 0 ≤ tD i ∧ tD i ≤ 3999
theorem SkyR.of {s7 days vals : Nat → Int} {now tel : Int} {tD tS tW tY : Nat → Int} (h : I_sky s7 days vals now tel tD tS tW tY) : SkyR now tel tD := by
  obtain ⟨⟨k1, k2, k3⟩, k4, k5, -⟩ := h
  refine ⟨by omega, ?_⟩
  rw [k3]
  exact k5
theorem wea_eq {σ : St} (h : I_sky (σ 7 0) (σ 64 0) (σ 65 0) (σ 12 0 1) (σ 12 0 8) (σ 88 0) (σ 89 0) (σ 90 0) (σ 91 0)) {what : Int} (h3 : 0 ≤ what) (h4 : what ≤ 2) : weaM σ what = wea σ what := by
  obtain ⟨⟨k1, k2, k3⟩, k4, k5, -⟩ := id h
  have b := lat_b (σ 64 0) (σ 7 0 3) (σ 7 0 2).toNat
  unfold weaM wea
  rw [k1, k2, k3, sky_eq h (by omega) h3 h4]
theorem sm_skyn {σ : St} {what : Int} {Q : Int → St → Prop} (h : SkyR (σ 12 0 1) (σ 12 0 8) (σ 88 0)) (h3 : 0 ≤ what) (h4 : what ≤ 2) (q : Q (weaM σ what) σ) : wp_X12_sky σ (σ 12 0 1) what Q :=
  sm_sky h.1.1 h.1.2.1 (fun i => ⟨by have := h.2 i; omega, by have := h.2 i; omega⟩) ⟨by have := h.1; omega, by have := h.1; omega⟩ ⟨by omega, by omega⟩ q
theorem weaM_st {σ : St} {k : Nat} {f : Nat → Int} {w : Int} (h1 : ¬ 12 = k) (h2 : ¬ 88 = k) (h3 : ¬ 89 = k) (h4 : ¬ 90 = k) (h5 : ¬ 91 = k) : weaM (sta σ k 0 f) w = weaM σ w := by
  unfold weaM
  rw [ra_ne h1, ra_ne h2, ra_ne h3, ra_ne h4, ra_ne h5]
/-- what is asked: thirteen numbers -/
def Ask (f : Nat → Int) (season day snow water dry : Int) : Prop := (f 0 = 0 ∧ f 1 = 0 ∧ f 2 = 0 ∧ f 3 = 0) ∧ (f 4 = season ∧ f 5 = day ∧ f 6 = snow ∧ f 7 = water ∧ f 8 = dry) ∧ f 9 = 0 ∧ f 10 = 0 ∧ f 11 = 0 ∧ f 12 = 0
theorem ask_loop {σ : St} {K : St → Prop} {Q : St → Prop} (q : ∀ f, (∀ i : Nat, i < 13 → f i = 0) → K (sta σ 75 0 f)) : ∀ (k i n : Nat) (f : Nat → Int), i + k = 13 → k < n → (∀ j : Nat, j < i → f j = 0) → wp_X8_askOfDay_2 K Q n (sta σ 75 0 f) i := by
  intro k
  induction k with
  | zero =>
    intro i n f hi hn hf
    obtain ⟨n, rfl⟩ : ∃ n', n = n' + 1 := ⟨n - 1, by omega⟩
    unfold wp_X8_askOfDay_2
    exact ⟨⟨by omega, by omega⟩, fun _ => q f (fun j hj => hf j (by omega)), fun h => absurd (by omega) h⟩
  | succ k ih =>
    intro i n f hi hn hf
    obtain ⟨n, rfl⟩ : ∃ n', n = n' + 1 := ⟨n - 1, by omega⟩
    unfold wp_X8_askOfDay_2
    refine ⟨⟨by omega, by omega⟩, fun h => absurd h (by omega), fun _ => ⟨by omega, by omega, fun σ9 e9 => ?_⟩⟩
    rw [e9, st_stae, show ((i : Int) + 1) = ((i + 1 : Nat) : Int) by omega]
    refine ih (i + 1) n _ (by omega) (by omega) (fun j hj => ?_)
    unfold up
    split
    · rfl
    · exact hf j (by omega)
theorem asm_loop {σ : St} {x1 : Int} {K : St → Int → Prop} {Q : St → Prop} (q : ∀ f, (∀ i : Nat, i < 13 → f i = 0) → K (sta σ 119 0 f) x1) : ∀ (k i n : Nat) (f : Nat → Int), i + k = 13 → k < n → (∀ j : Nat, j < i → f j = 0) → wp_X12_asks_2 K Q n (sta σ 119 0 f) x1 i := by
  intro k
  induction k with
  | zero =>
    intro i n f hi hn hf
    obtain ⟨n, rfl⟩ : ∃ n', n = n' + 1 := ⟨n - 1, by omega⟩
    unfold wp_X12_asks_2
    exact ⟨⟨by omega, by omega⟩, fun _ => q f (fun j hj => hf j (by omega)), fun h => absurd (by omega) h⟩
  | succ k ih =>
    intro i n f hi hn hf
    obtain ⟨n, rfl⟩ : ∃ n', n = n' + 1 := ⟨n - 1, by omega⟩
    unfold wp_X12_asks_2
    refine ⟨⟨by omega, by omega⟩, fun h => absurd h (by omega), fun _ => ⟨by omega, by omega, fun σ9 e9 => ?_⟩⟩
    rw [e9, st_stae, show ((i : Int) + 1) = ((i + 1 : Nat) : Int) by omega]
    refine ih (i + 1) n _ (by omega) (by omega) (fun j hj => ?_)
    unfold up
    split
    · rfl
    · exact hf j (by omega)
def seas (day : Int) : Int := day % 100 / 25
theorem sx_season {σ : St} {Q : Int → St → Prop} (h : 0 ≤ σ 7 0 3 ∧ σ 7 0 3 ≤ 3999) (q : Q (seas (σ 7 0 3)) σ) : wp_X7_season σ Q := by
  unfold wp_X7_season
  rw [tmn h.1, tdn (by omega)]
  exact ⟨⟨by omega, by omega⟩, ⟨by omega, by omega⟩, q⟩
theorem sm_season {σ : St} {Q : Int → St → Prop} (h : 0 ≤ σ 12 0 1 ∧ σ 12 0 1 ≤ 3999) (q : Q (seas (σ 12 0 1)) σ) : wp_X12_season σ Q := by
  unfold wp_X12_season
  rw [tmn h.1, tdn (by omega)]
  exact ⟨⟨by omega, by omega⟩, ⟨by omega, by omega⟩, q⟩
theorem wea_st {σ : St} {k : Nat} {f : Nat → Int} {w : Int} (h7 : ¬ 7 = k) (h64 : ¬ 64 = k) (h65 : ¬ 65 = k) : wea (sta σ k 0 f) w = wea σ w := by
  unfold wea
  rw [ra_ne h7, ra_ne h64, ra_ne h65]
theorem sx_askOfDay {σ : St} {Q : St → Prop} (h : SkyX (σ 7 0) (σ 64 0) (σ 65 0)) (q : ∀ f, Ask f (seas (σ 7 0 3)) (σ 7 0 3) (wea σ 0) (wea σ 1) (wea σ 2) → Q (sta σ 75 0 f)) : wp_X8_askOfDay σ Q := by
  have e := ask_loop (σ := σ) (K := wp_X8_askOfDay_21 Q) (Q := Q) ?_ 13 0 14 (σ 75 0) (by omega) (by omega) (fun j hj => absurd hj (by omega))
  · rw [sta_self] at e
    exact ⟨14, e⟩
  intro f hf
  have r7 : ∀ g, sta σ 75 0 g 7 = σ 7 := fun g => ra_ne (by decide)
  have hs : ∀ g, SkyX (sta σ 75 0 g 7 0) (sta σ 75 0 g 64 0) (sta σ 75 0 g 65 0) := fun g => by
    rw [ra_ne (by decide), ra_ne (by decide), ra_ne (by decide)]
    exact h
  unfold wp_X8_askOfDay_21
  refine sx_season (by rw [r7]; exact h.1.2.2) ?_
  intro s1 e1 s2 e2
  rw [e1, st_stae] at e2
  rw [st_stae] at e2
  subst e2
  refine sx_now (hs _) (by omega) (by omega) ?_
  intro s3 e3
  rw [st_stae] at e3
  subst e3
  refine sx_now (hs _) (by omega) (by omega) ?_
  intro s4 e4
  rw [st_stae] at e4
  subst e4
  refine sx_now (hs _) (by omega) (by omega) ?_
  intro s5 e5
  rw [st_stae] at e5
  subst e5
  refine q _ ?_
  simp only [wea_st (show ¬ 7 = 75 by decide) (show ¬ 64 = 75 by decide) (show ¬ 65 = 75 by decide), r7]
  have hz := fun i (hi : i < 13) => hf i hi
  simp (decide := true) only [Ask, up, ite_true, ite_false, hz]
/-- what is asked of a cell too -/
def AskC (f : Nat → Int) (season day snow water dry cell height far slash : Int) : Prop := (f 0 = cell ∧ f 1 = height ∧ f 2 = 0 ∧ f 3 = 0) ∧ (f 4 = season ∧ f 5 = day ∧ f 6 = snow ∧ f 7 = water ∧ f 8 = dry) ∧ f 9 = far ∧ f 10 = slash ∧ f 11 = 0 ∧ f 12 = 0
theorem sx_askOfCell {σ : St} {f : Nat → Int} {c a b d e g : Int} {Q : St → Prop} (hf : Ask f a b d e g) (h1 : 0 ≤ c) (h2 : c ≤ 63) (h3 : 0 ≤ σ 3 0 6 ∧ σ 3 0 6 ≤ 63) (q : ∀ f, AskC f a b d e g c (σ 28 0 c.toNat) (apv c (σ 3 0 6)) (σ 29 0 c.toNat) → Q (sta σ 75 0 f)) : wp_X8_askOfCell (sta σ 75 0 f) c Q := by
  unfold wp_X8_askOfCell wp_X3_far
  intro s1 e1
  rw [st_stae] at e1
  subst e1
  refine ⟨h1, by omega, fun s2 e2 => ?_⟩
  rw [st_stae, ra_ne (by decide)] at e2
  subst e2
  rw [ra_ne (by decide)]
  refine sx_apart h1 h2 h3.1 h3.2 ?_
  intro s3 e3
  rw [st_stae] at e3
  subst e3
  refine ⟨h1, by omega, fun s4 e4 => ?_⟩
  rw [st_stae, ra_ne (by decide)] at e4
  subst e4
  refine q _ ?_
  obtain ⟨⟨f0, f1, f2, f3⟩, ⟨f4, f5, f6, f7, f8⟩, f9, f10, f11, f12⟩ := hf
  refine ⟨⟨?_, ?_, ?_, ?_⟩, ⟨?_, ?_, ?_, ?_, ?_⟩, ?_, ?_, ?_, ?_⟩ <;> simp (decide := true) only [up, ite_true, ite_false, f2, f3, f4, f5, f6, f7, f8, f11, f12]
theorem sm_asks {σ : St} {c : Int} {Q : St → Prop} (h : SkyR (σ 12 0 1) (σ 12 0 8) (σ 88 0)) (h1 : -1 ≤ c) (h2 : c ≤ 63) (h3 : 0 ≤ σ 12 0 7 ∧ σ 12 0 7 ≤ 63)
    (q0 : c = -1 → ∀ f, Ask f (seas (σ 12 0 1)) (σ 12 0 1) (weaM σ 0) (weaM σ 1) (weaM σ 2) → Q (sta σ 119 0 f))
    (q1 : 0 ≤ c → ∀ f, AskC f (seas (σ 12 0 1)) (σ 12 0 1) (weaM σ 0) (weaM σ 1) (weaM σ 2) c (σ 83 0 c.toNat) (apv c (σ 12 0 7)) (σ 84 0 c.toNat) → Q (sta σ 119 0 f)) : wp_X12_asks σ c Q := by
  have e := asm_loop (σ := σ) (x1 := c) (K := wp_X12_asks_21 Q) (Q := Q) ?_ 13 0 14 (σ 119 0) (by omega) (by omega) (fun j hj => absurd hj (by omega))
  · rw [sta_self] at e
    exact ⟨14, e⟩
  intro f hf
  have r12 : ∀ g, sta σ 119 0 g 12 = σ 12 := fun g => ra_ne (by decide)
  have r83 : ∀ g, sta σ 119 0 g 83 = σ 83 := fun g => ra_ne (by decide)
  have r84 : ∀ g, sta σ 119 0 g 84 = σ 84 := fun g => ra_ne (by decide)
  have hs : ∀ g, SkyR (sta σ 119 0 g 12 0 1) (sta σ 119 0 g 12 0 8) (sta σ 119 0 g 88 0) := fun g => by
    rw [ra_ne (by decide), ra_ne (by decide)]
    exact h
  have wm : ∀ g w, weaM (sta σ 119 0 g) w = weaM σ w := fun g w => weaM_st (by decide) (by decide) (by decide) (by decide) (by decide)
  have hz := fun i (hi : i < 13) => hf i hi
  unfold wp_X12_asks_21
  refine sm_season (by rw [r12]; exact h.1.2.2) ?_
  intro s1 e1 s2 e2
  rw [e1, st_stae] at e2
  rw [st_stae] at e2
  subst e2
  refine sm_skyn (hs _) (by omega) (by omega) ?_
  intro s3 e3
  rw [st_stae] at e3
  subst e3
  refine sm_skyn (hs _) (by omega) (by omega) ?_
  intro s4 e4
  rw [st_stae] at e4
  subst e4
  refine sm_skyn (hs _) (by omega) (by omega) ?_
  intro s5 e5
  rw [st_stae] at e5
  subst e5
  refine ⟨⟨by omega, by omega⟩, fun cn => ?_, fun cn => ?_⟩
  · intro s6 e6
    rw [st_stae] at e6
    subst e6
    refine ⟨by omega, by omega, fun s7 e7 => ?_⟩
    rw [st_stae] at e7
    subst e7
    refine sm_farOf (by omega) h2 (by rw [r12]; exact h3.1) (by rw [r12]; exact h3.2) ?_
    intro s8 e8
    rw [st_stae] at e8
    subst e8
    refine ⟨by omega, by omega, fun s9 e9 => ?_⟩
    rw [st_stae] at e9
    subst e9
    refine q1 (by omega) _ ?_
    simp only [r12, r83, r84, wm]
    simp (decide := true) only [AskC, up, ite_true, ite_false, hz]
  · refine q0 cn _ ?_
    simp only [r12, wm]
    simp (decide := true) only [Ask, up, ite_true, ite_false, hz]
