/-! class and reference ask the law alike -/
theorem lat_congr {f g : Nat → Int} {d : Int} {n : Nat} (h : ∀ i, i < n → f i = g i) : lat f d n = lat g d n := by
  induction n with
  | zero => rfl
  | succ n ih =>
    have e := ih (fun i hi => h i (by omega))
    have b := lat_b g d n
    unfold lat
    rw [e, h n (by omega)]
    by_cases c : lat g d n = -1
    · rw [c]
      by_cases c2 : g n ≤ d
      · rw [if_pos ⟨c2, Or.inl rfl⟩, if_pos ⟨c2, Or.inl rfl⟩]
      · rw [if_neg (fun z => c2 z.1), if_neg (fun z => c2 z.1)]
    · rw [h (lat g d n).toNat (by omega)]
theorem Hd_iff {F G ng wd rl vl ng2 wd2 rl2 vl2 : Nat → Int} {s : Nat} {m m2 : Int} (hm : m2 = m) (hF : ∀ i, i < 13 → G i = F i) (ht : ∀ q : Nat, (q : Int) < m → Trm (ng (5 * s + q)) (wd (5 * s + q)) (rl (5 * s + q)) (vl (5 * s + q)) (ng2 (5 * s + q)) (wd2 (5 * s + q)) (rl2 (5 * s + q)) (vl2 (5 * s + q))) : Hd F ng wd rl vl s m ↔ Hd G ng2 wd2 rl2 vl2 s m2 := by
  subst hm
  have e : ∀ q : Nat, (q : Int) < m2 → tmv (G (wd2 (5 * s + q)).toNat) (rl2 (5 * s + q)) (vl2 (5 * s + q)) = tmv (F (wd (5 * s + q)).toNat) (rl (5 * s + q)) (vl (5 * s + q)) ∧ ng2 (5 * s + q) = ng (5 * s + q) := by
    intro q hq
    obtain ⟨⟨t1, t2, t3, t4⟩, t5⟩ := ht q hq
    rw [t1, t2, t3, t4, hF _ (by omega)]
    exact ⟨rfl, rfl⟩
  constructor
  · intro h q hq
    rw [(e q hq).1, (e q hq).2]
    exact h q hq
  · intro h q hq
    rw [← (e q hq).1, ← (e q hq).2]
    exact h q hq
theorem force_eq {tx tx2 today : Int} {bg ln vb ob tm ng wd rl vl bg2 ln2 so no tm2 ng2 wd2 rl2 vl2 : Nat → Int} (h : I_law tx tx2 bg ln vb ob tm ng wd rl vl bg2 ln2 so no tm2 ng2 wd2 rl2 vl2) : tforce bg2 today tx2 = tforce bg today tx ∧ tmany bg2 ln2 today tx2 = tmany bg ln today tx ∧ (∀ k : Nat, (k : Int) < tmany bg ln today tx → (tforce bg today tx : Int) < tx ∧ (k : Int) < ln (tforce bg today tx)) := by
  obtain ⟨⟨h1, h2, h3⟩, h4⟩ := h
  subst h1
  have e : lat bg2 today tx2.toNat = lat bg today tx2.toNat := lat_congr (fun i hi => (h4 i (by omega)).1.1)
  have b := lat_b bg today tx2.toNat
  unfold tmany tforce
  rw [e]
  refine ⟨rfl, ?_, fun k hk => ?_⟩
  · by_cases c : lat bg today tx2.toNat = -1
    · rw [if_pos c, if_pos c]
    · rw [if_neg c, if_neg c]
      exact (h4 _ (by omega)).1.2.1
  · by_cases c : lat bg today tx2.toNat = -1
    · rw [if_pos c] at hk
      omega
    · rw [if_neg c] at hk
      exact ⟨by omega, hk⟩
theorem bar_eq {tx tx2 today deed r r2 : Int} {bg ln vb ob tm ng wd rl vl bg2 ln2 so no tm2 ng2 wd2 rl2 vl2 F G : Nat → Int} (h : I_law tx tx2 bg ln vb ob tm ng wd rl vl bg2 ln2 so no tm2 ng2 wd2 rl2 vl2) (hF : ∀ i, i < 13 → G i = F i) (hd : 0 ≤ deed ∧ deed ≤ 2) (a : first (tmany bg ln today tx) (fun k => vb (12 * tforce bg today tx + k) = 0 ∧ ob (12 * tforce bg today tx + k) = deed ∧ Hd F ng wd rl vl (12 * tforce bg today tx + k) (tm (12 * tforce bg today tx + k))) r) (b : first (tmany bg2 ln2 today tx2) (fun k => so (12 * tforce bg2 today tx2 + k) = deed ∧ Hd G ng2 wd2 rl2 vl2 (12 * tforce bg2 today tx2 + k) (tm2 (12 * tforce bg2 today tx2 + k))) r2) : r2 = r := by
  obtain ⟨f1, f2, f3⟩ := force_eq (today := today) h
  rw [f1, f2] at b
  refine first_uni a b (fun k hk => ?_)
  obtain ⟨g1, g2⟩ := f3 k hk
  obtain ⟨-, g4⟩ := h.2 _ g1
  obtain ⟨⟨s1, s2, s3, s4⟩, s5⟩ := g4 k g2
  have e := Hd_iff (F := F) (G := G) s2 hF s5
  constructor
  · intro ⟨p1, p2, p3⟩
    refine ⟨?_, e.mp p3⟩
    rcases s1 with s1 | s1 <;> omega
  · intro ⟨p1, p2⟩
    have q : vb (12 * tforce bg today tx + k) = 0 ∧ ob (12 * tforce bg today tx + k) = deed := by
      rcases s1 with s1 | s1 <;> omega
    exact ⟨q.1, q.2, e.mpr p2⟩
theorem num_eq {tx tx2 today verb so9 r r2 : Int} {bg ln vb ob tm ng wd rl vl bg2 ln2 so no tm2 ng2 wd2 rl2 vl2 F G : Nat → Int} (h : I_law tx tx2 bg ln vb ob tm ng wd rl vl bg2 ln2 so no tm2 ng2 wd2 rl2 vl2) (hF : ∀ i, i < 13 → G i = F i) (hd : 1 ≤ verb ∧ verb ≤ 3) (hs : so9 = verb + 2) (a : lastv (tmany bg ln today tx) (fun k => vb (12 * tforce bg today tx + k) = verb ∧ Hd F ng wd rl vl (12 * tforce bg today tx + k) (tm (12 * tforce bg today tx + k))) (fun k => ob (12 * tforce bg today tx + k)) (dflt verb) r) (b : lastv (tmany bg2 ln2 today tx2) (fun k => so (12 * tforce bg2 today tx2 + k) = so9 ∧ Hd G ng2 wd2 rl2 vl2 (12 * tforce bg2 today tx2 + k) (tm2 (12 * tforce bg2 today tx2 + k))) (fun k => no (12 * tforce bg2 today tx2 + k)) (dflt (so9 - 2)) r2) : r2 = r ∧ 0 ≤ r ∧ r ≤ 9999 := by
  obtain ⟨f1, f2, f3⟩ := force_eq (today := today) h
  rw [f1, f2, show so9 - 2 = verb by omega] at b
  refine ⟨lastv_uni a b (fun k hk => ?_) (fun k hk hm => ?_), ?_⟩
  · obtain ⟨g1, g2⟩ := f3 k hk
    obtain ⟨-, g4⟩ := h.2 _ g1
    obtain ⟨⟨s1, s2, s3, s4⟩, s5⟩ := g4 k g2
    have e := Hd_iff (F := F) (G := G) s2 hF s5
    constructor
    · intro ⟨p1, p3⟩
      refine ⟨?_, e.mp p3⟩
      rcases s1 with s1 | s1 <;> omega
    · intro ⟨p1, p2⟩
      refine ⟨?_, e.mpr p2⟩
      rcases s1 with s1 | s1 <;> omega
  · obtain ⟨g1, g2⟩ := f3 k hk
    obtain ⟨-, g4⟩ := h.2 _ g1
    obtain ⟨⟨s1, s2, s3, s4⟩, s5⟩ := g4 k g2
    have := hm.1
    rcases s1 with s1 | s1 <;> omega
  · rcases a with ⟨a1, -⟩ | ⟨k, a1, hk, hm, -⟩
    · rw [a1]
      unfold dflt
      split
      · omega
      · split <;> omega
    · obtain ⟨g1, g2⟩ := f3 k hk
      obtain ⟨-, g4⟩ := h.2 _ g1
      obtain ⟨⟨s1, s2, s3, s4⟩, s5⟩ := g4 k g2
      have := hm.1
      dsimp only at a1
      rcases s1 with s1 | s1 <;> omega
/-- thirteen facts -/
def Fc (f : Nat → Int) (a0 a1 a2 a3 a4 a5 a6 a7 a8 a9 a10 a11 a12 : Int) : Prop := f 0 = a0 ∧ f 1 = a1 ∧ f 2 = a2 ∧ f 3 = a3 ∧ f 4 = a4 ∧ f 5 = a5 ∧ f 6 = a6 ∧ f 7 = a7 ∧ f 8 = a8 ∧ f 9 = a9 ∧ f 10 = a10 ∧ f 11 = a11 ∧ f 12 = a12
theorem thirteen (i : Nat) (h : i < 13) : i = 0 ∨ i = 1 ∨ i = 2 ∨ i = 3 ∨ i = 4 ∨ i = 5 ∨ i = 6 ∨ i = 7 ∨ i = 8 ∨ i = 9 ∨ i = 10 ∨ i = 11 ∨ i = 12 := by omega
theorem Fc_eq {f g : Nat → Int} {a0 a1 a2 a3 a4 a5 a6 a7 a8 a9 a10 a11 a12 : Int} (h : Fc f a0 a1 a2 a3 a4 a5 a6 a7 a8 a9 a10 a11 a12) (h' : Fc g a0 a1 a2 a3 a4 a5 a6 a7 a8 a9 a10 a11 a12) : ∀ i, i < 13 → g i = f i := by
  obtain ⟨f0, f1, f2, f3, f4, f5, f6, f7, f8, f9, f10, f11, f12⟩ := h
  obtain ⟨g0, g1, g2, g3, g4, g5, g6, g7, g8, g9, g10, g11, g12⟩ := h'
  intro i hi
  rcases thirteen i hi with rfl | rfl | rfl | rfl | rfl | rfl | rfl | rfl | rfl | rfl | rfl | rfl | rfl
  · rw [f0, g0]
  · rw [f1, g1]
  · rw [f2, g2]
  · rw [f3, g3]
  · rw [f4, g4]
  · rw [f5, g5]
  · rw [f6, g6]
  · rw [f7, g7]
  · rw [f8, g8]
  · rw [f9, g9]
  · rw [f10, g10]
  · rw [f11, g11]
  · rw [f12, g12]
theorem Fc_in {f : Nat → Int} {a0 a1 a2 a3 a4 a5 a6 a7 a8 a9 a10 a11 a12 : Int} (h : Fc f a0 a1 a2 a3 a4 a5 a6 a7 a8 a9 a10 a11 a12) (h0 : inR a0) (h1 : inR a1) (h2 : inR a2) (h3 : inR a3) (h4 : inR a4) (h5 : inR a5) (h6 : inR a6) (h7 : inR a7) (h8 : inR a8) (h9 : inR a9) (h10 : inR a10) (h11 : inR a11) (h12 : inR a12) : ∀ i, i < 13 → inR (f i) := by
  obtain ⟨f0, f1, f2, f3, f4, f5, f6, f7, f8, f9, f10, f11, f12⟩ := h
  intro i hi
  rcases thirteen i hi with rfl | rfl | rfl | rfl | rfl | rfl | rfl | rfl | rfl | rfl | rfl | rfl | rfl
  · rw [f0]; exact h0
  · rw [f1]; exact h1
  · rw [f2]; exact h2
  · rw [f3]; exact h3
  · rw [f4]; exact h4
  · rw [f5]; exact h5
  · rw [f6]; exact h6
  · rw [f7]; exact h7
  · rw [f8]; exact h8
  · rw [f9]; exact h9
  · rw [f10]; exact h10
  · rw [f11]; exact h11
  · rw [f12]; exact h12
/-- what of the class's land is asked -/
def LandX (h s : Nat → Int) (mill : Int) : Prop := (0 ≤ mill ∧ mill ≤ 63) ∧ (∀ i, 0 ≤ h i ∧ h i ≤ 40) ∧ ∀ i, 0 ≤ s i ∧ s i ≤ 900
theorem LandX.of {h s t g p : Nat → Int} {mill : Int} {h2 s2 t2 g2 p2 : Nat → Int} {mill2 lc : Int} (a : I_land h s t g p mill h2 s2 t2 g2 p2 mill2 lc) (hl : lc ≤ 300) : LandX h s mill ∧ LandX h2 s2 mill2 := by
  obtain ⟨⟨l1, l2, l3, l4, l5, l6⟩, lm, lh, ls, -⟩ := a
  have e : LandX h s mill := ⟨lm, lh, fun i => by have := ls i; omega⟩
  refine ⟨e, ?_⟩
  rw [l1, l2, l6]
  exact e
theorem wea_in {σ : St} (h : SkyX (σ 7 0) (σ 64 0) (σ 65 0)) (w : Int) : 0 ≤ wea σ w ∧ wea σ w ≤ 9 := svx_b h.2.1
theorem seas_in {d : Int} (h : 0 ≤ d ∧ d ≤ 3999) : inR (seas d) := ⟨by unfold seas; omega, by unfold seas; omega⟩
theorem sm_in {a : Int} (h : 0 ≤ a ∧ a ≤ 9) : inR a := ⟨by omega, by omega⟩
theorem sx_askOfCut {σ : St} {x1 x2 x3 x4 : Int} {Q : St → Prop} (h : SkyX (σ 7 0) (σ 64 0) (σ 65 0)) (hl : LandX (σ 28 0) (σ 29 0) (σ 3 0 6)) (h1 : 0 ≤ x2) (h2 : x2 ≤ 63) (q : ∀ f, Fc f x2 (σ 28 0 x2.toNat) x3 x4 (seas (σ 7 0 3)) (σ 7 0 3) (wea σ 0) (wea σ 1) (wea σ 2) (apv x2 (σ 3 0 6)) (σ 29 0 x2.toNat) x1 0 → Q (sta σ 75 0 f)) : wp_X11_askOfCut σ x1 x2 x3 x4 Q := by
  unfold wp_X11_askOfCut
  refine sx_askOfDay h (fun f hf => sx_askOfCell hf h1 h2 hl.1 (fun g hg => ?_))
  intro s1 e1 s2 e2 s3 e3
  rw [e1, st_stae] at e2
  rw [e2, st_stae] at e3
  rw [st_stae] at e3
  rw [e3]
  refine q _ ?_
  obtain ⟨⟨f0, f1, f2, f3⟩, ⟨f4, f5, f6, f7, f8⟩, f9, f10, f11, f12⟩ := hg
  refine ⟨?_, ?_, ?_, ?_, ?_, ?_, ?_, ?_, ?_, ?_, ?_, ?_, ?_⟩ <;> simp (decide := true) only [up, ite_true, ite_false, f0, f1, f4, f5, f6, f7, f8, f9, f10, f12]
theorem sx_askOfWay {σ : St} {j : Nat} {Q : St → Prop} (h : SkyX (σ 7 0) (σ 64 0) (σ 65 0)) (hl : LandX (σ 28 0) (σ 29 0) (σ 3 0 6)) (hw : σ 50 10 j ≠ 0) (h1 : 0 ≤ σ 10 j 1) (h2 : σ 10 j 1 ≤ 63) (q : ∀ f, Fc f (σ 10 j 1) (σ 28 0 (σ 10 j 1).toNat) 0 0 (seas (σ 7 0 3)) (σ 7 0 3) (wea σ 0) (wea σ 1) (wea σ 2) (apv (σ 10 j 1) (σ 3 0 6)) (σ 29 0 (σ 10 j 1).toNat) 0 (σ 10 j 0) → Q (sta σ 75 0 f)) : wp_X11_askOfWay σ j Q := by
  unfold wp_X11_askOfWay
  refine sx_askOfDay h (fun f hf => ⟨by rw [ra_ne (by decide)]; exact hw, ?_⟩)
  rw [ra_ne (show ¬ 10 = 75 by decide)]
  refine sx_askOfCell hf h1 h2 hl.1 (fun g hg => ⟨by rw [ra_ne (by decide)]; exact hw, fun s1 e1 => ?_⟩)
  rw [st_stae, ra_ne (by decide)] at e1
  rw [e1]
  refine q _ ?_
  obtain ⟨⟨f0, f1, f2, f3⟩, ⟨f4, f5, f6, f7, f8⟩, f9, f10, f11, f12⟩ := hg
  refine ⟨?_, ?_, ?_, ?_, ?_, ?_, ?_, ?_, ?_, ?_, ?_, ?_, ?_⟩ <;> simp (decide := true) only [up, ite_true, ite_false, f0, f1, f2, f3, f4, f5, f6, f7, f8, f9, f10, f11]
theorem sm_asksCut {σ : St} {x1 x2 x3 x4 : Int} {Q : St → Prop} (h : SkyR (σ 12 0 1) (σ 12 0 8) (σ 88 0)) (hl : LandX (σ 83 0) (σ 84 0) (σ 12 0 7)) (h1 : 0 ≤ x2) (h2 : x2 ≤ 63) (q : ∀ f, Fc f x2 (σ 83 0 x2.toNat) x3 x4 (seas (σ 12 0 1)) (σ 12 0 1) (weaM σ 0) (weaM σ 1) (weaM σ 2) (apv x2 (σ 12 0 7)) (σ 84 0 x2.toNat) x1 0 → Q (sta σ 119 0 f)) : wp_X12_asksCut σ x1 x2 x3 x4 Q := by
  unfold wp_X12_asksCut
  refine sm_asks h (by omega) h2 hl.1 (fun c => absurd c (by omega)) (fun _ g hg => ?_)
  intro s1 e1 s2 e2 s3 e3
  rw [e1, st_stae] at e2
  rw [e2, st_stae] at e3
  rw [st_stae] at e3
  rw [e3]
  refine q _ ?_
  obtain ⟨⟨f0, f1, f2, f3⟩, ⟨f4, f5, f6, f7, f8⟩, f9, f10, f11, f12⟩ := hg
  refine ⟨?_, ?_, ?_, ?_, ?_, ?_, ?_, ?_, ?_, ?_, ?_, ?_, ?_⟩ <;> simp (decide := true) only [up, ite_true, ite_false, f0, f1, f4, f5, f6, f7, f8, f9, f10, f12]
/-- a query's answers, out of the class's rows of law and thirteen facts -/
def BarF (σ : St) (F : Nat → Int) (deed r : Int) : Prop := first (tmany (σ 66 0) (σ 67 0) (σ 7 0 3) (σ 8 0 10)) (fun k => σ 68 0 (12 * tforce (σ 66 0) (σ 7 0 3) (σ 8 0 10) + k) = 0 ∧ σ 69 0 (12 * tforce (σ 66 0) (σ 7 0 3) (σ 8 0 10) + k) = deed ∧ Hd F (σ 71 0) (σ 72 0) (σ 73 0) (σ 74 0) (12 * tforce (σ 66 0) (σ 7 0 3) (σ 8 0 10) + k) (σ 70 0 (12 * tforce (σ 66 0) (σ 7 0 3) (σ 8 0 10) + k))) r
def NumF (σ : St) (F : Nat → Int) (verb r : Int) : Prop := lastv (tmany (σ 66 0) (σ 67 0) (σ 7 0 3) (σ 8 0 10)) (fun k => σ 68 0 (12 * tforce (σ 66 0) (σ 7 0 3) (σ 8 0 10) + k) = verb ∧ Hd F (σ 71 0) (σ 72 0) (σ 73 0) (σ 74 0) (12 * tforce (σ 66 0) (σ 7 0 3) (σ 8 0 10) + k) (σ 70 0 (12 * tforce (σ 66 0) (σ 7 0 3) (σ 8 0 10) + k))) (fun k => σ 69 0 (12 * tforce (σ 66 0) (σ 7 0 3) (σ 8 0 10) + k)) (dflt verb) r
def LawXs (σ : St) : Prop := LawX (σ 8 0 10) (σ 66 0) (σ 67 0) (σ 68 0) (σ 69 0) (σ 70 0) (σ 71 0) (σ 72 0) (σ 73 0) (σ 74 0)
def LawRs (σ : St) : Prop := LawR (σ 12 0 33) (σ 109 0) (σ 110 0) (σ 111 0) (σ 112 0) (σ 113 0) (σ 114 0) (σ 115 0) (σ 116 0) (σ 117 0)
theorem sx_barF {σ : St} {f : Nat → Int} {deed : Int} {Q : Int → St → Prop} (h : LawXs σ) (ht : 0 ≤ σ 7 0 3 ∧ σ 7 0 3 ≤ 3999) (hd : inR deed) (hF : ∀ i, i < 13 → inR (f i)) (q : ∀ r, BarF σ f deed r → Q r (sta σ 75 0 f)) : wp_X8_barring (sta σ 75 0 f) ((sta σ 75 0 f) 7 0 3) deed Q := by
  have r : ∀ k, ¬ k = 75 → sta σ 75 0 f k = σ k := fun k hk => ra_ne hk
  refine sx_barring ?_ ?_ hd ?_ (fun r9 hr => q r9 ?_)
  · rw [r 8 (by decide), r 66 (by decide), r 67 (by decide), r 68 (by decide), r 69 (by decide), r 70 (by decide), r 71 (by decide), r 72 (by decide), r 73 (by decide), r 74 (by decide)]
    exact h
  · rw [r 7 (by decide)]
    exact ⟨by omega, by omega⟩
  · rw [ra_eq]
    exact hF
  · unfold BarX at hr
    rw [ra_eq, r 7 (by decide), r 8 (by decide), r 66 (by decide), r 67 (by decide), r 68 (by decide), r 69 (by decide), r 70 (by decide), r 71 (by decide), r 72 (by decide), r 73 (by decide), r 74 (by decide)] at hr
    exact hr
theorem sx_numF {σ : St} {f : Nat → Int} {verb : Int} {Q : Int → St → Prop} (h : LawXs σ) (ht : 0 ≤ σ 7 0 3 ∧ σ 7 0 3 ≤ 3999) (hd : 1 ≤ verb ∧ verb ≤ 3) (hF : ∀ i, i < 13 → inR (f i)) (q : ∀ r, NumF σ f verb r → Q r (sta σ 75 0 f)) : wp_X8_numberOn (sta σ 75 0 f) ((sta σ 75 0 f) 7 0 3) verb Q := by
  have r : ∀ k, ¬ k = 75 → sta σ 75 0 f k = σ k := fun k hk => ra_ne hk
  refine sx_numberOn ?_ ?_ hd ?_ (fun r9 hr => q r9 ?_)
  · rw [r 8 (by decide), r 66 (by decide), r 67 (by decide), r 68 (by decide), r 69 (by decide), r 70 (by decide), r 71 (by decide), r 72 (by decide), r 73 (by decide), r 74 (by decide)]
    exact h
  · rw [r 7 (by decide)]
    exact ⟨by omega, by omega⟩
  · rw [ra_eq]
    exact hF
  · unfold NumX at hr
    rw [ra_eq, r 7 (by decide), r 8 (by decide), r 66 (by decide), r 67 (by decide), r 68 (by decide), r 69 (by decide), r 70 (by decide), r 71 (by decide), r 72 (by decide), r 73 (by decide), r 74 (by decide)] at hr
    exact hr
def BarG (σ : St) (F : Nat → Int) (deed r : Int) : Prop := first (tmany (σ 109 0) (σ 110 0) (σ 12 0 1) (σ 12 0 33)) (fun k => σ 111 0 (12 * tforce (σ 109 0) (σ 12 0 1) (σ 12 0 33) + k) = deed ∧ Hd F (σ 114 0) (σ 115 0) (σ 116 0) (σ 117 0) (12 * tforce (σ 109 0) (σ 12 0 1) (σ 12 0 33) + k) (σ 113 0 (12 * tforce (σ 109 0) (σ 12 0 1) (σ 12 0 33) + k))) r
def NumG (σ : St) (F : Nat → Int) (so r : Int) : Prop := lastv (tmany (σ 109 0) (σ 110 0) (σ 12 0 1) (σ 12 0 33)) (fun k => σ 111 0 (12 * tforce (σ 109 0) (σ 12 0 1) (σ 12 0 33) + k) = so ∧ Hd F (σ 114 0) (σ 115 0) (σ 116 0) (σ 117 0) (12 * tforce (σ 109 0) (σ 12 0 1) (σ 12 0 33) + k) (σ 113 0 (12 * tforce (σ 109 0) (σ 12 0 1) (σ 12 0 33) + k))) (fun k => σ 112 0 (12 * tforce (σ 109 0) (σ 12 0 1) (σ 12 0 33) + k)) (dflt (so - 2)) r
theorem sm_barG {σ : St} {f : Nat → Int} {deed : Int} {Q : Int → St → Prop} (h : LawRs σ) (ht : 0 ≤ σ 12 0 1 ∧ σ 12 0 1 ≤ 3999) (hd : inR deed) (hF : ∀ i, i < 13 → inR (f i)) (q : ∀ r, BarG σ f deed r → Q r (sta σ 119 0 f)) : wp_X12_barring (sta σ 119 0 f) deed Q := by
  have r : ∀ k, ¬ k = 119 → sta σ 119 0 f k = σ k := fun k hk => ra_ne hk
  refine sm_barring ?_ ?_ hd ?_ (fun r9 hr => q r9 ?_)
  · rw [r 12 (by decide), r 109 (by decide), r 110 (by decide), r 111 (by decide), r 112 (by decide), r 113 (by decide), r 114 (by decide), r 115 (by decide), r 116 (by decide), r 117 (by decide)]
    exact h
  · rw [r 12 (by decide)]
    exact ⟨by omega, by omega⟩
  · rw [ra_eq]
    exact hF
  · unfold BarM at hr
    rw [ra_eq, r 12 (by decide), r 109 (by decide), r 110 (by decide), r 111 (by decide), r 113 (by decide), r 114 (by decide), r 115 (by decide), r 116 (by decide), r 117 (by decide)] at hr
    exact hr
theorem sm_numG {σ : St} {f : Nat → Int} {so : Int} {Q : Int → St → Prop} (h : LawRs σ) (ht : 0 ≤ σ 12 0 1 ∧ σ 12 0 1 ≤ 3999) (hd : 3 ≤ so ∧ so ≤ 5) (hF : ∀ i, i < 13 → inR (f i)) (q : ∀ r, NumG σ f so r → Q r (sta σ 119 0 f)) : wp_X12_lastOf (sta σ 119 0 f) so Q := by
  have r : ∀ k, ¬ k = 119 → sta σ 119 0 f k = σ k := fun k hk => ra_ne hk
  refine sm_lastOf ?_ ?_ hd ?_ (fun r9 hr => q r9 ?_)
  · rw [r 12 (by decide), r 109 (by decide), r 110 (by decide), r 111 (by decide), r 112 (by decide), r 113 (by decide), r 114 (by decide), r 115 (by decide), r 116 (by decide), r 117 (by decide)]
    exact h
  · rw [r 12 (by decide)]
    exact ⟨by omega, by omega⟩
  · rw [ra_eq]
    exact hF
  · unfold NumM at hr
    rw [ra_eq, r 12 (by decide), r 109 (by decide), r 110 (by decide), r 111 (by decide), r 112 (by decide), r 113 (by decide), r 114 (by decide), r 115 (by decide), r 116 (by decide), r 117 (by decide)] at hr
    exact hr
