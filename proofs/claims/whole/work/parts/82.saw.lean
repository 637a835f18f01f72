/-! how a log is sawn: what both sides compute, and the class -/
/-- a board of the order o may begin at p -/
def Okb (T U L Sh : Nat → Int) (un wd ft td : Int) (o : Nat) (p : Nat) : Prop := U o ≤ un ∧ 0 < L o ∧ td ≤ Sh o ∧ (p : Int) + T o ≤ wd ∧ (ft < p ∨ (p : Int) + T o ≤ ft)
def afb (T : Nat → Int) (wd : Int) (o p : Nat) : Nat := (min wd ((p : Int) + T o + 1)).toNat
def CAt (N : Nat) (Ok : Nat → Nat → Prop) (val : (Nat → Int) → Nat → Nat → Int) (b : Nat → Int) (p : Nat) : Prop := (∀ o, o < N → Ok o p → val b o p ≤ b p) ∧ b (p + 1) ≤ b p ∧ (b p = b (p + 1) ∨ ∃ o, o < N ∧ Ok o p ∧ val b o p = b p)
def KAt (N : Nat) (Ok : Nat → Nat → Prop) (val : (Nat → Int) → Nat → Nat → Int) (b : Nat → Int) (p : Nat) (g : Int) : Prop := (g = -2 ∧ ∀ o, o < N → Ok o p → ¬ val b o p = b p) ∨ ∃ o : Nat, g = o ∧ o < N ∧ Ok o p ∧ val b o p = b p ∧ ∀ o', o' < o → Ok o' p → ¬ val b o' p = b p
def valb (T Pr : Nat → Int) (wd : Int) (b : Nat → Int) (o p : Nat) : Int := Pr o + b (afb T wd o p)
theorem KAt_uni {N : Nat} {Ok : Nat → Nat → Prop} {val : (Nat → Int) → Nat → Nat → Int} {b : Nat → Int} {p : Nat} {g g' : Int} (h : KAt N Ok val b p g) (h' : KAt N Ok val b p g') : g' = g := by
  rcases h with ⟨a1, a2⟩ | ⟨o, a1, a2, a3, a4, a5⟩ <;> rcases h' with ⟨b1, b2⟩ | ⟨o', b1, b2, b3, b4, b5⟩
  · omega
  · exact absurd b4 (a2 o' b2 b3)
  · exact absurd a4 (b2 o a2 a3)
  · rcases Nat.lt_trichotomy o o' with z | z | z
    · exact absurd a4 (b5 o z a3)
    · omega
    · exact absurd b4 (a5 o' z b3)
/-- b from the end on is the same for both -/
theorem C_uni {N wd : Nat} {Ok : Nat → Nat → Prop} {T Pr : Nat → Int} {b b' : Nat → Int} (hT : ∀ o, o < N → 1 ≤ T o) (hw : b wd = b' wd) (h : ∀ p, p < wd → CAt N Ok (valb T Pr wd) b p) (h' : ∀ p, p < wd → CAt N Ok (valb T Pr wd) b' p) : ∀ d p, p + d = wd → b p = b' p := by
  intro d
  induction d using Nat.strongRecOn with
  | ind d ih =>
    intro p hp
    by_cases c : d = 0
    · rw [show p = wd by omega, hw]
    · have hp1 : p < wd := by omega
      have e1 := ih (d - 1) (by omega) (p + 1) (by omega)
      have ev : ∀ o, o < N → valb T Pr wd b o p = valb T Pr wd b' o p := fun o ho => by
        have t := hT o ho
        have e := ih (wd - afb T wd o p) (by unfold afb; omega) (afb T wd o p) (by unfold afb; omega)
        unfold valb
        rw [e]
      obtain ⟨x1, x2, x3⟩ := h p hp1
      obtain ⟨y1, y2, y3⟩ := h' p hp1
      have l1 : b p ≤ b' p := by
        rcases x3 with z | ⟨o, o1, o2, o3⟩
        · omega
        · have := y1 o o1 o2
          have := ev o o1
          omega
      have l2 : b' p ≤ b p := by
        rcases y3 with z | ⟨o, o1, o2, o3⟩
        · omega
        · have := x1 o o1 o2
          have := ev o o1
          omega
      omega
theorem KAt_congr {N wd p : Nat} {Ok : Nat → Nat → Prop} {T Pr : Nat → Int} {b b' : Nat → Int} {g : Int} (hT : ∀ o, o < N → 1 ≤ T o) (hp : p < wd) (e : ∀ i, p ≤ i → i ≤ wd → b i = b' i) (h : KAt N Ok (valb T Pr wd) b p g) : KAt N Ok (valb T Pr wd) b' p g := by
  have ev : ∀ o, o < N → valb T Pr wd b' o p = valb T Pr wd b o p := fun o ho => by
    have t := hT o ho
    unfold valb
    rw [e (afb T wd o p) (by unfold afb; omega) (by unfold afb; omega)]
  have ep := e p (by omega) (by omega)
  rcases h with ⟨a1, a2⟩ | ⟨o, a1, a2, a3, a4, a5⟩
  · exact Or.inl ⟨a1, fun o o1 o2 => by rw [ev o o1, ← ep]; exact a2 o o1 o2⟩
  · exact Or.inr ⟨o, a1, a2, a3, by rw [ev o a2, ← ep]; exact a4, fun o' o1 o2 => by rw [ev o' (by omega), ← ep]; exact a5 o' o1 o2⟩
/-- what the class needs of its orders -/
def OrdX (σ : St) : Prop := (0 ≤ σ 6 0 6 ∧ σ 6 0 6 ≤ 30) ∧ ∀ i : Nat, (i : Int) < σ 6 0 6 → 1 ≤ σ 55 0 i ∧ σ 55 0 i ≤ 12 ∧ 2 ≤ σ 56 0 i ∧ σ 56 0 i ≤ 6 ∧ 0 ≤ σ 57 0 i ∧ σ 57 0 i ≤ 99 ∧ 1 ≤ σ 58 0 i ∧ σ 58 0 i ≤ 99 ∧ 0 ≤ σ 59 0 i ∧ σ 59 0 i ≤ 3999
def okX (σ : St) (j : Nat) (td : Int) : Nat → Nat → Prop := Okb (σ 55 0) (σ 56 0) (σ 57 0) (σ 59 0) (σ 4 j 1) (σ 4 j 2) (σ 4 j 4) td
theorem sx_open {σ : St} {j o p : Nat} {td w : Int} {A B : St → Prop} (hO : OrdX σ) (ho : (o : Int) < σ 6 0 6) (hu : inR (σ 4 j 1)) (ht : inR td) (ew : σ 4 j 2 = w) (hw : 0 ≤ w ∧ w ≤ 34) (hf : inR (σ 4 j 4)) (hp : (p : Int) ≤ 40) (hl : σ 50 4 j ≠ 0) (q1 : okX σ j td o p → B σ) (q0 : ¬ okX σ j td o p → A σ) : wp_X6_isOpen σ o (σ 4 j 1) td (fun r σ' => inR r ∧ (r = 0 → A σ') ∧ (¬ r = 0 → σ' 50 4 j ≠ 0 ∧ wp_X6_fits σ' o p w (σ' 4 j 4) (fun r2 σ2 => inR r2 ∧ (r2 = 0 → A σ2) ∧ (¬ r2 = 0 → B σ2)))) := by
  obtain ⟨a1, a2, a3, a4, a5, a6, a7, a8, a9, a10⟩ := hO.2 o ho
  have hN := hO.1
  unfold okX Okb at q1 q0
  rw [ew] at q1 q0
  unfold wp_X6_isOpen wp_X6_fits
  rw [Int.toNat_natCast]
  refine ⟨by omega, by omega, ⟨by omega, by omega⟩, hu, fun c => ⟨in0, fun _ => q0 (by omega), fun z => absurd rfl z⟩, fun c => ⟨by omega, by omega, ⟨by omega, by omega⟩, fun d => ⟨in0, fun _ => q0 (by omega), fun z => absurd rfl z⟩, fun d => ⟨by omega, by omega, ⟨by omega, by omega⟩, ht, fun e => ⟨in0, fun _ => q0 (by omega), fun z => absurd rfl z⟩, fun e => ⟨in1, fun z => absurd z (by decide), fun _ => ⟨hl, by omega, by omega, fun v9 e9 => ?_⟩⟩⟩⟩⟩
  refine ⟨⟨by omega, by omega⟩, ⟨by omega, by omega⟩, fun y => ⟨in0, fun _ => q0 (by omega), fun z => absurd rfl z⟩, fun y => ⟨hf, ⟨by omega, by omega⟩, fun w => ⟨in1, fun z => absurd z (by decide), fun _ => q1 ⟨by omega, by omega, by omega, by omega, by omega⟩⟩, fun w => ⟨hf, ⟨by omega, by omega⟩, fun x => ⟨in0, fun _ => q0 (by omega), fun z => absurd rfl z⟩, fun x => ⟨in1, fun z => absurd z (by decide), fun _ => q1 ⟨by omega, by omega, by omega, by omega, by omega⟩⟩⟩⟩⟩
/-- the best order so far, at a place -/
def Ro (N : Nat) (Ok : Nat → Nat → Prop) (val : Nat → Int) (p : Nat) (v g : Int) : Prop := (∀ o, o < N → Ok o p → val o ≤ v) ∧ ((v = -1 ∧ g = -2 ∧ ∀ o, o < N → ¬ Ok o p) ∨ ∃ o : Nat, g = o ∧ o < N ∧ Ok o p ∧ val o = v ∧ ∀ o', o' < o → Ok o' p → ¬ val o' = v)
theorem wo_loop {σ : St} {j p wd : Nat} {td : Int} {F G : Nat → Int} {K : St → Int → Prop} {Q : St → Prop} (hO : OrdX σ) (hu : inR (σ 4 j 1)) (ht : inR td) (hw : σ 4 j 2 = wd) (hwd : wd ≤ 34) (hf : inR (σ 4 j 4)) (hp : p < wd) (hl : σ 50 4 j ≠ 0) (hF : ∀ i, p < i → i ≤ wd → 0 ≤ F i ∧ F i ≤ 100000)
    (q : ∀ v g : Int, -1 ≤ v → v ≤ 200000 → Ro (σ 6 0 6).toNat (okX σ j td) (fun o => valb (σ 55 0) (σ 58 0) wd F o p) p v g → K (sta (sta σ 61 0 (up F p v)) 62 0 (up G p g)) p) :
    ∀ (c o n : Nat) (v g : Int), (o : Int) + c = σ 6 0 6 → c < n → -1 ≤ v → v ≤ 200000 → Ro o (okX σ j td) (fun o => valb (σ 55 0) (σ 58 0) wd F o p) p v g → wp_X6_weigh_18 K Q n (sta (sta σ 61 0 (up F p v)) 62 0 (up G p g)) j p wd td o := by
  intro c
  induction c with
  | zero =>
    intro o n v g hi hn v1 v2 hr
    obtain ⟨n, rfl⟩ : ∃ n', n = n' + 1 := ⟨n - 1, by omega⟩
    have r6 : sta (sta σ 61 0 (up F p v)) 62 0 (up G p g) 6 = σ 6 := by rw [ra_ne (by decide), ra_ne (by decide)]
    have hN := hO.1
    unfold wp_X6_weigh_18
    rw [r6]
    rw [show o = (σ 6 0 6).toNat by omega] at hr
    exact ⟨⟨by omega, by omega⟩, ⟨by omega, by omega⟩, fun _ => q v g v1 v2 hr, fun z => absurd (by omega) z⟩
  | succ c ih =>
    intro o n v g hi hn v1 v2 hr
    obtain ⟨n, rfl⟩ : ∃ n', n = n' + 1 := ⟨n - 1, by omega⟩
    obtain ⟨S, eS⟩ : ∃ S : St, S = sta (sta σ 61 0 (up F p v)) 62 0 (up G p g) := ⟨_, rfl⟩
    have rk : ∀ k, ¬ k = 61 → ¬ k = 62 → S k = σ k := fun k k1 k2 => by rw [eS, ra_ne k2, ra_ne k1]
    have r61 : S 61 0 = up F p v := by rw [eS, ra_ne (by decide), ra_eq]
    have hN := hO.1
    have hO2 : OrdX S := by
      unfold OrdX
      rw [rk 6 (by decide) (by decide), rk 55 (by decide) (by decide), rk 56 (by decide) (by decide), rk 57 (by decide) (by decide), rk 58 (by decide) (by decide), rk 59 (by decide) (by decide)]
      exact hO
    have eok : okX S j td = okX σ j td := by
      unfold okX
      rw [rk 4 (by decide) (by decide), rk 55 (by decide) (by decide), rk 56 (by decide) (by decide), rk 57 (by decide) (by decide), rk 59 (by decide) (by decide)]
    have oo := hO.2 o (by omega)
    obtain ⟨h1, h2⟩ := id hr
    have nxn : ¬ okX σ j td o p → wp_X6_weigh_107 (fun σ j1 x2 x3 x4 x5 => wp_X6_weigh_18 K Q n σ j1 x2 x3 x4 x5) K Q S j p wd td o := by
      intro hno
      unfold wp_X6_weigh_107
      rw [show ((o : Int) + 1) = ((o + 1 : Nat) : Int) by omega, eS]
      refine ih (o + 1) n v g (by omega) (by omega) v1 v2 ⟨fun o' o1 o2 => ?_, ?_⟩
      · by_cases e : o' = o
        · rw [e] at o2
          exact absurd o2 hno
        · exact h1 o' (by omega) o2
      · rcases h2 with ⟨z1, z2, z3⟩ | ⟨w, z1, z2, z3, z4, z5⟩
        · refine Or.inl ⟨z1, z2, fun o' o1 => ?_⟩
          by_cases e : o' = o
          · rw [e]
            exact hno
          · exact z3 o' (by omega)
        · exact Or.inr ⟨w, z1, by omega, z3, z4, z5⟩
    rw [← eS]
    unfold wp_X6_weigh_18
    rw [rk 6 (by decide) (by decide), rk 50 (by decide) (by decide)]
    refine ⟨⟨by omega, by omega⟩, ⟨by omega, by omega⟩, fun z => absurd z (by omega), fun _ => ⟨hl, ?_⟩⟩
    refine sx_open hO2 (by rw [rk 6 (by decide) (by decide)]; omega) (by rw [rk 4 (by decide) (by decide)]; exact hu) ht (by rw [rk 4 (by decide) (by decide)]; exact hw) (by omega) (by rw [rk 4 (by decide) (by decide)]; exact hf) (by omega) (by rw [rk 50 (by decide) (by decide)]; exact hl) (fun hy => ?_) (fun hy => nxn (by rw [← eok]; exact hy))
    rw [eok] at hy
    have ea : Int.toNat (min (wd : Int) ((p : Int) + σ 55 0 o + 1)) = afb (σ 55 0) wd o p := rfl
    have eb : p < afb (σ 55 0) wd o p ∧ afb (σ 55 0) wd o p ≤ wd := by
      rw [← ea]
      omega
    have fb := hF _ eb.1 eb.2
    have vb : valb (σ 55 0) (σ 58 0) wd F o p = σ 58 0 o + F (afb (σ 55 0) wd o p) := rfl
    refine ⟨by omega, by omega, ?_⟩
    unfold wp_X6_behind
    rw [Int.toNat_natCast, rk 55 (by decide) (by decide), Int.toNat_natCast]
    refine ⟨by omega, by omega, j_min ⟨by omega, by omega⟩ ⟨by omega, by omega⟩ ⟨by omega, by omega, fun v9 e9 => ?_⟩⟩
    rw [ea, r61, up_ne (show ¬ afb (σ 55 0) wd o p = p by omega), rk 58 (by decide) (by decide), ← vb] at e9
    rw [r61, up_eq, e9]
    refine ⟨by omega, by omega, ⟨by omega, by omega⟩, ⟨by omega, by omega⟩, fun z => ?_, fun z => ⟨by omega, by omega, fun s1 e1 => ⟨by omega, by omega, fun s2 e2 => ?_⟩⟩⟩
    · unfold wp_X6_weigh_107
      rw [show ((o : Int) + 1) = ((o + 1 : Nat) : Int) by omega, eS]
      refine ih (o + 1) n v g (by omega) (by omega) v1 v2 ⟨fun o' o1 o2 => ?_, ?_⟩
      · by_cases e : o' = o
        · rw [e]
          exact z
        · exact h1 o' (by omega) o2
      · rcases h2 with ⟨z1, z2, z3⟩ | ⟨w, z1, z2, z3, z4, z5⟩
        · exact absurd z (by omega)
        · exact Or.inr ⟨w, z1, by omega, z3, z4, z5⟩
    · rw [eS, st_stac (by decide), st_stae, up_up] at e1
      rw [e1, st_stae, up_up] at e2
      unfold wp_X6_weigh_107
      rw [show ((o : Int) + 1) = ((o + 1 : Nat) : Int) by omega, e2]
      refine ih (o + 1) n _ _ (by omega) (by omega) (by omega) (by omega) ⟨fun o' o1 o2 => ?_, Or.inr ⟨o, rfl, by omega, hy, rfl, fun o' o1 o2 e => ?_⟩⟩
      · by_cases e : o' = o
        · rw [e]
          exact Int.le_refl _
        · have := h1 o' (by omega) o2
          dsimp only at this ⊢
          omega
      · have := h1 o' o1 o2
        dsimp only at this e
        omega
theorem sx_weighO {σ : St} {j p wd : Nat} {td : Int} {F G : Nat → Int} {Q : St → Prop} (hO : OrdX σ) (hu : inR (σ 4 j 1)) (ht : inR td) (hw : σ 4 j 2 = wd) (hwd : wd ≤ 34) (hf : inR (σ 4 j 4)) (hp : p < wd) (hl : σ 50 4 j ≠ 0) (hF : ∀ i, p < i → i ≤ wd → 0 ≤ F i ∧ F i ≤ 99 * ((wd : Int) - i))
    (q : ∀ v g : Int, 0 ≤ v → v ≤ 99 * ((wd : Int) - p) → CAt (σ 6 0 6).toNat (okX σ j td) (valb (σ 55 0) (σ 58 0) wd) (up F p v) p → KAt (σ 6 0 6).toNat (okX σ j td) (valb (σ 55 0) (σ 58 0) wd) (up F p v) p g → Q (sta (sta σ 61 0 (up F p v)) 62 0 (up G p g))) : wp_X6_weigh (sta (sta σ 61 0 F) 62 0 G) j p wd td Q := by
  have hN := hO.1
  have ne : ∀ v o, o < (σ 6 0 6).toNat → valb (σ 55 0) (σ 58 0) wd (up F p v) o p = valb (σ 55 0) (σ 58 0) wd F o p ∧ valb (σ 55 0) (σ 58 0) wd F o p ≤ 99 * ((wd : Int) - p) ∧ 1 ≤ valb (σ 55 0) (σ 58 0) wd F o p := fun v o ho => by
    have oo := hO.2 o (by omega)
    have ea : Int.toNat (min (wd : Int) ((p : Int) + σ 55 0 o + 1)) = afb (σ 55 0) wd o p := rfl
    have eb : p < afb (σ 55 0) wd o p ∧ afb (σ 55 0) wd o p ≤ wd := by
      rw [← ea]
      omega
    have fb := hF _ eb.1 eb.2
    unfold valb
    rw [up_ne (by omega)]
    omega
  unfold wp_X6_weigh
  refine ⟨by omega, by omega, fun s1 e1 => ⟨by omega, by omega, fun s2 e2 => ⟨31, ?_⟩⟩⟩
  rw [Int.toNat_natCast, st_stac (by decide), st_stae] at e1
  rw [Int.toNat_natCast, e1, st_stae] at e2
  rw [e2]
  refine wo_loop hO hu ht hw hwd hf hp hl (fun i i1 i2 => by have := hF i i1 i2; omega) (fun v g v1 v2 hr => ?_) (σ 6 0 6).toNat 0 31 (-1) (-2) (by omega) (by omega) (by omega) (by omega) ⟨fun o o1 => absurd o1 (by omega), Or.inl ⟨rfl, rfl, fun o o1 => absurd o1 (by omega)⟩⟩
  obtain ⟨h1, h2⟩ := hr
  unfold wp_X6_weigh_113
  have r61 : sta (sta σ 61 0 (up F p v)) 62 0 (up G p g) 61 0 = up F p v := by rw [ra_ne (by decide), ra_eq]
  rw [r61, Int.toNat_natCast, up_eq, show Int.toNat ((p : Int) + 1) = p + 1 by omega, up_ne (show ¬ p + 1 = p by omega)]
  have fp := hF (p + 1) (by omega) (by omega)
  refine ⟨by omega, by omega, by omega, by omega, ⟨by omega, by omega⟩, ⟨by omega, by omega⟩, fun z => ?_, fun z => ⟨by omega, by omega, by omega, by omega, fun s3 e3 => ⟨by omega, by omega, fun s4 e4 => ?_⟩⟩⟩
  · have h3 : ∃ o : Nat, g = o ∧ o < (σ 6 0 6).toNat ∧ okX σ j td o p ∧ valb (σ 55 0) (σ 58 0) wd F o p = v ∧ ∀ o', o' < o → okX σ j td o' p → ¬ valb (σ 55 0) (σ 58 0) wd F o' p = v := by
      rcases h2 with ⟨y1, -⟩ | y
      · exact absurd z (by omega)
      · exact y
    obtain ⟨o, o1, o2, o3, o4, o5⟩ := h3
    have vb := ne v o o2
    refine q v g (by omega) (by omega) ⟨fun o' y1 y2 => ?_, ?_, Or.inr ⟨o, o2, o3, ?_⟩⟩ (Or.inr ⟨o, o1, o2, o3, ?_, fun o' y1 y2 => ?_⟩)
    · rw [(ne v o' y1).1, up_eq]
      exact h1 o' y1 y2
    · rw [up_ne (by omega), up_eq]
      exact z
    · rw [vb.1, up_eq]
      exact o4
    · rw [vb.1, up_eq]
      exact o4
    · rw [(ne v o' (by omega)).1, up_eq]
      exact o5 o' y1 y2
  · rw [st_stac (by decide), st_stae, up_up] at e3
    rw [e3, st_stae, up_up] at e4
    rw [e4]
    have nv : ∀ o, o < (σ 6 0 6).toNat → okX σ j td o p → valb (σ 55 0) (σ 58 0) wd F o p < F (p + 1) := fun o y1 y2 => by
      have := h1 o y1 y2
      dsimp only at this
      omega
    refine q (F (p + 1)) (-2) (by omega) (by omega) ⟨fun o' y1 y2 => ?_, ?_, Or.inl ?_⟩ (Or.inl ⟨rfl, fun o y1 y2 => ?_⟩)
    · rw [(ne _ o' y1).1, up_eq]
      have := nv o' y1 y2
      omega
    · rw [up_ne (by omega), up_eq]
      exact Int.le_refl _
    · rw [up_eq, up_ne (by omega)]
    · rw [(ne _ o y1).1, up_eq]
      have := nv o y1 y2
      omega
theorem pl_loop {σ : St} {j wd : Nat} {td : Int} {K : St → Int → Prop} {Q : St → Prop} (hO : OrdX σ) (hu : inR (σ 4 j 1)) (ht : inR td) (hw : σ 4 j 2 = wd) (hwd : wd ≤ 34) (hf : inR (σ 4 j 4)) (hl : σ 50 4 j ≠ 0)
    (q : ∀ F G : Nat → Int, F wd = 0 → (∀ p, p < wd → CAt (σ 6 0 6).toNat (okX σ j td) (valb (σ 55 0) (σ 58 0) wd) F p ∧ KAt (σ 6 0 6).toNat (okX σ j td) (valb (σ 55 0) (σ 58 0) wd) F p (G p)) → K (sta (sta σ 61 0 F) 62 0 G) wd) :
    ∀ (c n : Nat) (F G : Nat → Int), c ≤ wd → c < n → F wd = 0 → (∀ p, c ≤ p → p < wd → CAt (σ 6 0 6).toNat (okX σ j td) (valb (σ 55 0) (σ 58 0) wd) F p ∧ KAt (σ 6 0 6).toNat (okX σ j td) (valb (σ 55 0) (σ 58 0) wd) F p (G p)) → (∀ i, c ≤ i → i ≤ wd → 0 ≤ F i ∧ F i ≤ 99 * ((wd : Int) - i)) → wp_X6_plan_22 K Q n (sta (sta σ 61 0 F) 62 0 G) j td wd ((c : Int) - 1) := by
  have hN := hO.1
  have hT : ∀ o, o < (σ 6 0 6).toNat → 1 ≤ σ 55 0 o := fun o ho => (hO.2 o (by omega)).1
  intro c
  induction c with
  | zero =>
    intro n F G hc hn h0 hb hF
    obtain ⟨n, rfl⟩ : ∃ n', n = n' + 1 := ⟨n - 1, by omega⟩
    unfold wp_X6_plan_22
    exact ⟨⟨by omega, by omega⟩, fun _ => q F G h0 (fun p hp => hb p (by omega) hp), fun z => absurd (by omega) z⟩
  | succ c ih =>
    intro n F G hc hn h0 hb hF
    obtain ⟨n, rfl⟩ : ∃ n', n = n' + 1 := ⟨n - 1, by omega⟩
    unfold wp_X6_plan_22
    rw [show (((c + 1 : Nat) : Int) - 1) = (c : Int) by omega]
    refine ⟨⟨by omega, by omega⟩, fun z => absurd z (by omega), fun _ => ?_⟩
    refine sx_weighO hO hu ht hw hwd hf (by omega) hl (fun i i1 i2 => hF i (by omega) i2) (fun v g v1 v2 hC hK => ?_)
    rw [show (c : Int) + (-1) = (c : Int) - 1 by omega]
    refine ih n _ _ (by omega) (by omega) (by rw [up_ne (by omega)]; exact h0) (fun p p1 p2 => ?_) (fun i i1 i2 => ?_)
    · by_cases e : p = c
      · subst e
        rw [up_eq]
        exact ⟨hC, hK⟩
      · rw [up_ne e]
        obtain ⟨⟨b1, b2, b3⟩, bk⟩ := hb p (by omega) p2
        have en : ∀ i, p ≤ i → up F c v i = F i := fun i hi => up_ne (by omega)
        have ev : ∀ o, o < (σ 6 0 6).toNat → valb (σ 55 0) (σ 58 0) wd (up F c v) o p = valb (σ 55 0) (σ 58 0) wd F o p := fun o ho => by
          have t := hT o ho
          unfold valb
          rw [en _ (by unfold afb; omega)]
        refine ⟨⟨fun o y1 y2 => by rw [ev o y1, en p (by omega)]; exact b1 o y1 y2, by rw [en (p + 1) (by omega), en p (by omega)]; exact b2, ?_⟩, KAt_congr hT p2 (fun i i1 _ => (en i i1).symm) bk⟩
        rcases b3 with y | ⟨o, y1, y2, y3⟩
        · exact Or.inl (by rw [en p (by omega), en (p + 1) (by omega)]; exact y)
        · exact Or.inr ⟨o, y1, y2, by rw [ev o y1, en p (by omega)]; exact y3⟩
    · by_cases e : i = c
      · rw [e, up_eq]
        exact ⟨v1, v2⟩
      · rw [up_ne e]
        exact hF i (by omega) i2
