/-! a day goes by: at its end what lies at the mill floats -/
theorem GhB_fl {td mill : Int} {V : St} {m : Nat} (h : GhB V m) : ∀ l, GhB (flG td mill V l) m := by
  intro l
  induction l with
  | zero => exact h
  | succ l ih =>
    unfold flG
    split
    · intro i hi
      have b := ih i hi
      unfold bcm
      simp (decide := true) only [rs_ne, rs_eq, not_false_eq_true]
      by_cases e : i = l
      · rw [e, up_eq]
        rw [e] at b
        omega
      · rw [up_ne e]
        exact b
    · exact ih
theorem flx_loop {σ V : St} {m mill : Nat} {td : Int} {Q : St → Prop} (hm : σ 11 0 4 = m) (hm3 : m ≤ 300) (htd : σ 7 0 3 = td) (hb : 0 ≤ td ∧ td ≤ 3999) (hmi : σ 3 0 6 = mill) (hmb : mill ≤ 63) (q : ∀ S, RelL S (flG td mill V m) → FrD σ S → Q S) :
    ∀ (k i n : Nat) (S : St), i + k = m → k < n → RelL S (flG td mill V i) → FrD σ S → wp_X11_floatLogsAtMill_21 Q n S i := by
  intro k
  induction k with
  | zero =>
    intro i n S hk hn1 hR hF
    obtain ⟨n, rfl⟩ : ∃ n', n = n' + 1 := ⟨n - 1, by omega⟩
    have e : i = m := by omega
    subst e
    unfold wp_X11_floatLogsAtMill_21
    rw [hF 11 (by decide) (by decide) (by decide) (by decide) (by decide) (by decide), hm]
    exact ⟨⟨by omega, by omega⟩, ⟨by omega, by omega⟩, fun _ => q S hR hF, fun z => absurd (Int.le_refl _) z⟩
  | succ k ih =>
    intro i n S hk hn1 hR hF
    obtain ⟨n, rfl⟩ : ∃ n', n = n' + 1 := ⟨n - 1, by omega⟩
    have nxt : flG td mill V (i + 1) = if flG td mill V i 102 0 i = 0 ∧ flG td mill V i 95 0 i = mill then bcm (flG td mill V i) i 1 1 td (td + Int.tdiv (apv mill mill) 4) else flG td mill V i := rfl
    have ih' := fun S => ih (i + 1) n S (by omega) (by omega)
    rw [nxt] at ih'
    obtain ⟨G, eG⟩ : ∃ G, G = flG td mill V i := ⟨_, rfl⟩
    rw [← eG] at hR ih'
    have f := fun (k : Nat) (h : k < 4 ∨ (4 < k ∧ k < 31) ∨ (37 < k ∧ k < 75) ∨ 75 < k) => hF k (by omega) (by omega) (by omega) (by omega) (by omega) (by omega)
    have s11 : S 11 0 4 = m := by rw [f 11 (by omega), hm]
    have hR0 := hR
    obtain ⟨hA, hB, ⟨v1, v2, v3, v4⟩, hY, hK⟩ := hR
    obtain ⟨⟨b5, b7, b8⟩, ⟨-, gh⟩, gc, -⟩ := hB i (by omega)
    have sb : 0 ≤ G 102 0 i ∧ G 102 0 i ≤ 4 := by
      rcases gh with h | h | h | h | h <;> omega
    have lv := v3 i (by omega)
    have stay : ¬ (G 102 0 i = 0 ∧ G 95 0 i = mill) → wp_X11_floatLogsAtMill_21 Q n S ((i + 1 : Nat) : Int) := by
      intro z
      have nx := ih' S
      rw [if_neg z] at nx
      exact nx hR0 hF
    unfold wp_X11_floatLogsAtMill_21 wp_X11_floatLogsAtMill_60 wp_X4_liesIn
    dsimp only
    rw [s11, Int.toNat_natCast, b8, b5, f 3 (by omega), hmi, show ((i : Int) + 1) = ((i + 1 : Nat) : Int) by omega]
    refine ⟨⟨by omega, by omega⟩, ⟨by omega, by omega⟩, fun z => absurd z (by omega), fun _ => ⟨by omega, by omega, fun z => absurd z lv.1, fun _ _ => ⟨lv.2, lv.2, ⟨by omega, by omega⟩, fun z => ⟨in0, fun _ => stay (fun y => z y.1), fun y => absurd rfl y⟩, fun z1 => ⟨lv.2, ⟨by omega, by omega⟩, ⟨by omega, by omega⟩, fun z => ⟨in0, fun _ => stay (fun y => z y.2), fun y => absurd rfl y⟩, fun z2 => ⟨in1, fun y => absurd y (by decide), fun _ => ?_⟩⟩⟩⟩⟩
    have yes : G 102 0 i = 0 ∧ G 95 0 i = mill := ⟨z1, z2⟩
    have g9 : S 4 i 9 = ((1 : Nat) : Int) := by
      rw [z1] at gh
      rcases gh with h | h | h | h | h
      · exact h.2.1
      all_goals omega
    have kb := apv_kd (ce := mill) (mill := mill) (td := td) hmb (by omega) hb
    refine sx_become (s := 0) (cell := mill) (c := 1) (td := td) lv.2 (by rw [b8, z1]) in0 ⟨by decide, by decide⟩ (by rw [b5, z2]) hmb g9 (by decide) (by rw [f 3 (by omega), hmi]; omega) (by rw [f 7 (by omega)]; exact htd) ?_
    rw [f 3 (by omega), hmi]
    have nx := ih' (bcx S i 1 mill (S 31 0 mill + (nil01 1 - nil01 0)) 1 td (td + Int.tdiv (apv mill mill) 4))
    rw [if_pos yes] at nx
    refine nx (RelL_bc hR0 (by omega) (Or.inl ⟨z1, Or.inl rfl⟩) g9 z2 (by rw [z1]) rfl hb kb) (fun k y1 y2 y3 y4 y5 y6 => ?_)
    unfold bcx
    rw [rs_ne y1, rs_ne y5, rs_ne y4, rs_ne y3, rs_ne y1, rs_ne y2]
    exact hF k y1 y2 y3 y4 y5 y6
theorem sx_float {σ V S : St} {m mill : Nat} {td : Int} {Q : St → Prop} (hm : σ 11 0 4 = m) (hm3 : m ≤ 300) (htd : σ 7 0 3 = td) (hb : 0 ≤ td ∧ td ≤ 3999) (hmi : σ 3 0 6 = mill) (hmb : mill ≤ 63) (hR : RelL S V) (hF : FrD σ S) (q : ∀ S, RelL S (flG td mill V m) → FrD σ S → Q S) : wp_X11_floatLogsAtMill S Q := by
  have s3 : S 3 0 6 = mill := by rw [hF 3 (by decide) (by decide) (by decide) (by decide) (by decide) (by decide), hmi]
  have s4 : S 11 0 4 = m := by rw [hF 11 (by decide) (by decide) (by decide) (by decide) (by decide) (by decide), hm]
  have yl := hR.2.2.2.1 mill (by omega)
  rw [s4] at yl
  have li := lies_in (state := V 102 0) (cell := V 95 0) (c := (mill : Int)) (m : Int).toNat
  unfold wp_X11_floatLogsAtMill
  rw [s3, Int.toNat_natCast]
  refine ⟨by omega, by omega, ⟨by omega, by omega⟩, fun z => ⟨m + 1, flx_loop hm hm3 htd hb hmi hmb q m 0 (m + 1) S (by omega) (by omega) hR hF⟩, fun z => ?_⟩
  have e : flG td mill V m = V := flG_none (m := m) (fun l hl => li.2.2 (by omega) l (by omega)) m (Nat.le_refl _)
  rw [e] at q
  exact q S hR hF
theorem flm_loop {τ V : St} {m mill : Nat} {td x1 : Int} {K : St → Int → Prop} {Q : Int → St → Prop} (hm : τ 12 0 17 = m) (hm3 : m ≤ 300) (htd : τ 12 0 1 = td) (hb : 0 ≤ td ∧ td ≤ 3999) (hmi : τ 12 0 7 = mill) (hmb : mill ≤ 63) (hg : GhB V m) (q : ∀ T, (T 95 0 = flG td mill V m 95 0 ∧ T 103 0 = flG td mill V m 103 0 ∧ T 102 0 = flG td mill V m 102 0 ∧ T 104 0 = flG td mill V m 104 0 ∧ T 105 0 = flG td mill V m 105 0) → FrE τ T → K T x1) :
    ∀ (k i n : Nat) (T : St) (F : Nat → Prop), i + k = m → k < n → FloP (flG td mill V i) T m td mill F → (∀ l, F l → i ≤ l) → FrE τ T → wp_X12_day_45 K Q n T x1 i := by
  intro k
  induction k with
  | zero =>
    intro i n T F hk hn1 hR hL hF
    obtain ⟨n, rfl⟩ : ∃ n', n = n' + 1 := ⟨n - 1, by omega⟩
    have e : i = m := by omega
    subst e
    unfold wp_X12_day_45
    rw [hF 12 (by decide) (by decide) (by decide) (by decide) (by decide) (by decide), hm]
    obtain ⟨⟨h1, h2, h3, h4, h5⟩, h6⟩ := hR
    have nF : ∀ l, ¬ F l := fun l hl => by
      have a := (h6 l hl).1
      have b := hL l hl
      omega
    have n5 : ∀ l, ¬ at5 F 1 l := fun l hl => nF _ hl.1
    have c : ∀ (a v : Nat → Int), cfv a v F = a := fun a v => by
      funext l
      rw [cfv_n (nF l)]
    have c5 : ∀ (a v : Nat → Int), cfv a v (at5 F 1) = a := fun a v => by
      funext l
      rw [cfv_n (n5 l)]
    refine ⟨⟨by omega, by omega⟩, ⟨by omega, by omega⟩, fun _ => q T ⟨h1, h2, ?_, ?_, ?_⟩ hF, fun z => absurd (Int.le_refl _) z⟩
    · rw [h3, c]
    · rw [h4, c5]
    · rw [h5, c5]
  | succ k ih =>
    intro i n T F hk hn1 hR hL hF
    obtain ⟨n, rfl⟩ : ∃ n', n = n' + 1 := ⟨n - 1, by omega⟩
    have nxt : flG td mill V (i + 1) = if flG td mill V i 102 0 i = 0 ∧ flG td mill V i 95 0 i = mill then bcm (flG td mill V i) i 1 1 td (td + Int.tdiv (apv mill mill) 4) else flG td mill V i := rfl
    have ih' := fun T F => ih (i + 1) n T F (by omega) (by omega)
    have gb := GhB_fl (td := td) (mill := mill) hg i i (by omega)
    rw [nxt] at ih'
    obtain ⟨G, eG⟩ : ∃ G, G = flG td mill V i := ⟨_, rfl⟩
    rw [← eG] at hR ih' gb
    have f := fun (k : Nat) (h : k < 95 ∨ (95 < k ∧ k < 102) ∨ (105 < k ∧ k < 119) ∨ 119 < k) => hF k (by omega) (by omega) (by omega) (by omega) (by omega) (by omega)
    have t12 : T 12 = τ 12 := f 12 (by omega)
    have hR0 := hR
    obtain ⟨⟨f1, f2, f3, f4, f5⟩, f6⟩ := hR
    have more : ¬ F i → ∀ l, F l → i + 1 ≤ l := fun z l hl => by
      have a := hL l hl
      have b : ¬ l = i := fun e => z (by rw [← e]; exact hl)
      omega
    unfold wp_X12_day_45 wp_X12_day_81
    rw [t12, hm, hmi, Int.toNat_natCast, f3, f1, show ((i : Int) + 1) = ((i + 1 : Nat) : Int) by omega]
    by_cases hFi : F i
    · obtain ⟨-, g1, g2, g3⟩ := f6 i hFi
      have nx := ih' T (fun l => F l ∧ ¬ l = i)
      rw [if_pos ⟨g1, g2⟩] at nx
      have nx2 := nx (FloP_take hR0 hFi rfl) (fun l hl => by
        have a := hL l hl.1
        have b := hl.2
        omega) hF
      rw [cfv_p hFi]
      exact ⟨⟨by omega, by omega⟩, ⟨by omega, by omega⟩, fun z => absurd z (by omega), fun _ => ⟨by omega, by omega, in1, fun _ => nx2, fun z => absurd z (by decide)⟩⟩
    · rw [cfv_n hFi]
      have stay : ¬ (G 102 0 i = 0 ∧ G 95 0 i = mill) → wp_X12_day_45 K Q n T x1 ((i + 1 : Nat) : Int) := by
        intro z
        have nx := ih' T F
        rw [if_neg z] at nx
        exact nx hR0 (more hFi) hF
      refine ⟨⟨by omega, by omega⟩, ⟨by omega, by omega⟩, fun z => absurd z (by omega), fun _ => ⟨by omega, by omega, ⟨by omega, by omega⟩, fun z => stay (fun y => z y.1), fun z1 => ⟨by omega, by omega, ⟨by omega, by omega⟩, ⟨by omega, by omega⟩, fun z => stay (fun y => z y.2), fun z2 => ?_⟩⟩⟩
      refine sm_becomes (k := 1) (td := td) (cell := mill) (by omega) rfl (by decide) (by rw [f1]; exact z2) (by omega) (by rw [t12, hmi]; omega) (by rw [t12, htd]) ?_
      rw [t12, hmi]
      have nx := ih' (bcm T i 1 1 td (td + Int.tdiv (apv mill mill) 4)) F
      rw [if_pos ⟨z1, z2⟩] at nx
      exact nx (FloP_two hR0 hFi) (more hFi) (FrE_bc hF)
/-! the month's end -/
def moS (rt : Int) (V : St) (i : Nat) : St := if V 129 0 i = 0 then st (st (st V 127 0 i (V 127 0 i + rt - min (V 126 0 i) (V 127 0 i + rt))) 128 0 i (V 128 0 i + (V 126 0 i - min (V 126 0 i) (V 127 0 i + rt)))) 126 0 i 0 else V
def moG (rt : Nat → Int) (V : St) : Nat → St
  | 0 => V
  | i + 1 => moS (rt i) (moG rt V i) i
theorem moG_k {rt : Nat → Int} {V : St} {k : Nat} (h1 : ¬ k = 126) (h2 : ¬ k = 127) (h3 : ¬ k = 128) : ∀ i, moG rt V i k = V k := by
  intro i
  induction i with
  | zero => rfl
  | succ i ih =>
    show moS (rt i) (moG rt V i) i k = V k
    unfold moS
    split
    · rw [rs_ne h1, rs_ne h3, rs_ne h2]
      exact ih
    · exact ih
/-- crews as class and ghost have them, with a rent more in sight -/
def RelC (S V : St) (lc td : Int) : Prop := I_crews (S 11 0 11) (V 12 0 60) lc td (S 1) (S 79 0) (S 50 1) (V 125 0) (V 126 0) (V 127 0) (V 128 0) (V 129 0)
theorem qx_numberForC {n : Nat} {σ τ : St} {c verb : Int} {Q : Int → St → Prop} (hI : Inv n σ) (e : CEq σ τ) (hc : inR c) (hd : 1 ≤ verb ∧ verb ≤ 3) (q : ∀ f r, FcCrew σ c f → NumF σ f verb r → Q r (sta τ 75 0 f)) : wp_X11_numberFor τ c verb Q := by
  obtain ⟨sx, ly, lw, -, -⟩ := e.facts hI
  have e7 : τ 7 = σ 7 := e.1 7 (by decide)
  unfold wp_X11_numberFor
  refine sx_askOfDay sx (fun f hf s1 es => ?_)
  rw [st_stae] at es
  rw [es]
  have hf2 : FcCrew σ c (up f (Int.toNat 11) c) := by
    rw [e.wx, e.wx, e.wx, e7] at hf
    obtain ⟨⟨f0, f1, f2, f3⟩, ⟨f4, f5, f6, f7, f8⟩, f9, f10, f11, f12⟩ := hf
    refine ⟨?_, ?_, ?_, ?_, ?_, ?_, ?_, ?_, ?_, ?_, ?_, ?_, ?_⟩ <;> simp (decide := true) only [up, ite_true, ite_false, f0, f1, f2, f3, f4, f5, f6, f7, f8, f9, f10, f12]
  refine sx_numF lw (by rw [e7]; exact hI.1.2.1.2.2) hd (FcCrew_in hI hf2 hc) (fun r hr => q _ r hf2 ?_)
  unfold NumF at hr ⊢
  rw [e7, e.1 8 (by decide), e.1 66 (by decide), e.1 67 (by decide), e.1 68 (by decide), e.1 69 (by decide), e.1 70 (by decide), e.1 71 (by decide), e.1 72 (by decide), e.1 73 (by decide), e.1 74 (by decide)] at hr
  exact hr
theorem rt_ex {n : Nat} {σ : St} (hI : Inv n σ) : ∃ rt : Nat → Int, (∀ w, 0 ≤ rt w ∧ rt w ≤ 9999) ∧ ∀ w : Nat, (∃ f, FcCrew σ w f ∧ NumF σ f 3 (rt w)) ∧ ∀ f r, FcCrew σ w f → NumF σ f 3 r → r = rt w := by
  obtain ⟨rt, h⟩ := Classical.axiomOfChoice (β := fun _ : Nat => Int) (r := fun (w : Nat) (v : Int) => ∃ f, FcCrew σ w f ∧ NumF σ f 3 v) (fun w => by
    obtain ⟨f, hf⟩ := Fc_ex 0 0 0 0 (seas (σ 7 0 3)) (σ 7 0 3) (wea σ 0) (wea σ 1) (wea σ 2) 0 0 w 0
    obtain ⟨r, hr⟩ := NumF_ex (f := f) (verb := 3) hI
    exact ⟨r, f, hf, hr⟩)
  refine ⟨rt, fun w => ?_, fun w => ⟨h w, fun f r hf hr => ?_⟩⟩
  · obtain ⟨f, -, e⟩ := h w
    exact numF_b hI ⟨by decide, by decide⟩ e
  · obtain ⟨f', hf', hr'⟩ := h w
    exact NumF_uni hI (Fc_eq hf' hf) hr' hr
