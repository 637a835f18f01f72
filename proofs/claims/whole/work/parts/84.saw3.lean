/-! how a log is sawn: the reference -/
def OrdR (σ : St) : Prop := (0 ≤ σ 12 0 71 ∧ σ 12 0 71 ≤ 30) ∧ ∀ i : Nat, (i : Int) < σ 12 0 71 → 1 ≤ σ 133 0 i ∧ σ 133 0 i ≤ 12 ∧ 2 ≤ σ 134 0 i ∧ σ 134 0 i ≤ 6 ∧ 0 ≤ σ 135 0 i ∧ σ 135 0 i ≤ 99 ∧ 1 ≤ σ 136 0 i ∧ σ 136 0 i ≤ 99 ∧ 0 ≤ σ 137 0 i ∧ σ 137 0 i ≤ 3999
def okR (σ : St) (l : Nat) : Nat → Nat → Prop := Okb (σ 133 0) (σ 134 0) (σ 135 0) (σ 137 0) (σ 97 0 l) (σ 98 0 l) (σ 101 0 l) (σ 12 0 1)
/-- what the reference needs of a log -/
def LgR (σ : St) (l wd : Nat) : Prop := l < 300 ∧ σ 98 0 l = wd ∧ 1 ≤ wd ∧ wd ≤ 34 ∧ inR (σ 97 0 l) ∧ (-1 ≤ σ 101 0 l ∧ σ 101 0 l ≤ 100) ∧ inR (σ 12 0 1)
theorem sm_canBe {σ : St} {l wd o p : Nat} {Q : Int → St → Prop} (hO : OrdR σ) (hL : LgR σ l wd) (ho : (o : Int) < σ 12 0 71) (hp : p ≤ 40) (q1 : okR σ l o p → Q 1 σ) (q0 : ¬ okR σ l o p → Q 0 σ) : wp_X12_canBe σ o l p Q := by
  obtain ⟨a1, a2, a3, a4, a5, a6, a7, a8, a9, a10⟩ := hO.2 o ho
  have hN := hO.1
  obtain ⟨l1, l2, l3, l4, l5, l6, l7⟩ := hL
  unfold okR Okb at q1 q0
  unfold wp_X12_canBe
  rw [Int.toNat_natCast, Int.toNat_natCast]
  refine ⟨by omega, by omega, fun f ef => ⟨by omega, by omega, ⟨by omega, by omega⟩, fun c => q0 (by omega), fun c => ⟨by omega, by omega, ⟨by omega, by omega⟩, l7, fun d => q0 (by omega), fun d => ⟨by omega, by omega, by omega, by omega, l5, ⟨by omega, by omega⟩, fun e => q0 (by omega), fun e => ⟨by omega, by omega, by omega, by omega, ⟨by omega, by omega⟩, ⟨by omega, by omega⟩, fun y => q0 (by omega), fun y => ⟨⟨by omega, by omega⟩, fun w => q1 ⟨by omega, by omega, by omega, by omega, by omega⟩, fun w => ⟨⟨by omega, by omega⟩, ⟨by omega, by omega⟩, fun x => q1 ⟨by omega, by omega, by omega, by omega, by omega⟩, fun x => ⟨by omega, by omega, ⟨by omega, by omega⟩, ⟨by omega, by omega⟩, fun u => q0 (by omega), fun u => q1 ⟨by omega, by omega, by omega, by omega, by omega⟩⟩⟩⟩⟩⟩⟩⟩⟩
theorem sm_after {σ : St} {o p wd : Nat} {Q : Int → St → Prop} (hO : OrdR σ) (ho : (o : Int) < σ 12 0 71) (hp : p ≤ 40) (hw : wd ≤ 40) (q : Q ((afb (σ 133 0) wd o p : Nat) : Int) σ) : wp_X12_afterBoard σ o p wd Q := by
  have a := hO.2 o ho
  have hN := hO.1
  have ea : ((afb (σ 133 0) wd o p : Nat) : Int) = min (wd : Int) ((p : Int) + σ 133 0 o + 1) := by
    unfold afb
    omega
  rw [ea] at q
  unfold wp_X12_afterBoard
  rw [Int.toNat_natCast]
  refine ⟨by omega, by omega, ⟨by omega, by omega⟩, ⟨by omega, by omega⟩, fun c => ?_, fun c => ⟨by omega, by omega, ?_⟩⟩
  · rw [show min (wd : Int) ((p : Int) + σ 133 0 o + 1) = wd by omega] at q
    exact q
  · rw [show min (wd : Int) ((p : Int) + σ 133 0 o + 1) = (p : Int) + σ 133 0 o + 1 by omega] at q
    exact q
theorem OrdR_sta {σ : St} {k : Nat} {f : Nat → Int} (hk : k = 139 ∨ k = 140) (h : OrdR σ) : OrdR (sta σ k 0 f) := by
  unfold OrdR
  rw [ra_ne (by omega), ra_ne (by omega), ra_ne (by omega), ra_ne (by omega), ra_ne (by omega), ra_ne (by omega)]
  exact h
theorem LgR_sta {σ : St} {k l wd : Nat} {f : Nat → Int} (hk : k = 139 ∨ k = 140) (h : LgR σ l wd) : LgR (sta σ k 0 f) l wd := by
  unfold LgR
  rw [ra_ne (by omega), ra_ne (by omega), ra_ne (by omega), ra_ne (by omega)]
  exact h
theorem okR_sta {σ : St} {k l : Nat} {f : Nat → Int} (hk : k = 139 ∨ k = 140) : okR (sta σ k 0 f) l = okR σ l := by
  unfold okR
  rw [ra_ne (by omega), ra_ne (by omega), ra_ne (by omega), ra_ne (by omega), ra_ne (by omega), ra_ne (by omega), ra_ne (by omega), ra_ne (by omega)]
theorem mo_loop {σ : St} {l p wd : Nat} {F : Nat → Int} {K : St → Int → Int → Int → Prop} {Q : Int → St → Prop} (hO : OrdR σ) (hL : LgR σ l wd) (hp : p < wd) (hF : ∀ i, p < i → i ≤ wd → 0 ≤ F i ∧ F i ≤ 100000)
    (q : ∀ v : Int, (∀ o, o < (σ 12 0 71).toNat → okR σ l o p → valb (σ 133 0) (σ 136 0) wd F o p ≤ v) → F (p + 1) ≤ v → (v = F (p + 1) ∨ ∃ o, o < (σ 12 0 71).toNat ∧ okR σ l o p ∧ valb (σ 133 0) (σ 136 0) wd F o p = v) → K (sta σ 139 0 (up F p v)) l wd p) :
    ∀ (c o n : Nat) (v : Int), (o : Int) + c = σ 12 0 71 → c < n → 0 ≤ v → v ≤ 200000 → (∀ o', o' < o → okR σ l o' p → valb (σ 133 0) (σ 136 0) wd F o' p ≤ v) → F (p + 1) ≤ v → (v = F (p + 1) ∨ ∃ o', o' < (σ 12 0 71).toNat ∧ okR σ l o' p ∧ valb (σ 133 0) (σ 136 0) wd F o' p = v) → wp_X12_lays__39 K Q n (sta σ 139 0 (up F p v)) l wd p o := by
  have hN := hO.1
  have hw := hL.2.2.2.1
  intro c
  induction c with
  | zero =>
    intro o n v hi hn v1 v2 h1 h2 h3
    obtain ⟨n, rfl⟩ : ∃ n', n = n' + 1 := ⟨n - 1, by omega⟩
    unfold wp_X12_lays__39
    rw [ra_ne (show ¬ 12 = 139 by decide)]
    exact ⟨⟨by omega, by omega⟩, ⟨by omega, by omega⟩, fun _ => q v (fun o' y => h1 o' (by omega)) h2 h3, fun z => absurd (by omega) z⟩
  | succ c ih =>
    intro o n v hi hn v1 v2 h1 h2 h3
    obtain ⟨n, rfl⟩ : ∃ n', n = n' + 1 := ⟨n - 1, by omega⟩
    have oo := hO.2 o (by omega)
    obtain ⟨S, eS⟩ : ∃ S : St, S = sta σ 139 0 (up F p v) := ⟨_, rfl⟩
    have rk : ∀ k, ¬ k = 139 → S k = σ k := fun k k1 => by rw [eS, ra_ne k1]
    have r139 : S 139 0 = up F p v := by rw [eS, ra_eq]
    have hO2 : OrdR S := by rw [eS]; exact OrdR_sta (Or.inl rfl) hO
    have hL2 : LgR S l wd := by rw [eS]; exact LgR_sta (Or.inl rfl) hL
    have eok : okR S l = okR σ l := by rw [eS]; exact okR_sta (Or.inl rfl)
    have eb : p < afb (σ 133 0) wd o p ∧ afb (σ 133 0) wd o p ≤ wd := by unfold afb; omega
    have fb := hF _ eb.1 eb.2
    have vb : valb (σ 133 0) (σ 136 0) wd F o p = σ 136 0 o + F (afb (σ 133 0) wd o p) := rfl
    rw [← eS]
    unfold wp_X12_lays__39 wp_X12_lays__95
    rw [rk 12 (by decide), show ((o : Int) + 1) = ((o + 1 : Nat) : Int) by omega]
    refine ⟨⟨by omega, by omega⟩, ⟨by omega, by omega⟩, fun z => absurd z (by omega), fun _ => sm_canBe hO2 hL2 (by rw [rk 12 (by decide)]; omega) (by omega) (fun hy => ⟨in1, fun z => absurd z (by decide), fun _ => ⟨by omega, by omega, by omega, by omega, sm_after hO2 (by rw [rk 12 (by decide)]; omega) (by omega) (by omega) ?_⟩⟩) (fun hy => ⟨in0, fun _ => ?_, fun z => absurd rfl z⟩)⟩
    · rw [eok] at hy
      rw [rk 133 (by decide), rk 136 (by decide), r139]
      simp only [Int.toNat_natCast, up_eq]
      rw [up_ne (show ¬ afb (σ 133 0) wd o p = p by omega), ← vb]
      refine ⟨by omega, by omega, j_max ⟨by omega, by omega⟩ ⟨by omega, by omega⟩ ⟨by omega, by omega, fun s1 e1 => ?_⟩⟩
      rw [eS, st_stae, up_up] at e1
      rw [e1]
      refine ih (o + 1) n _ (by omega) (by omega) (by omega) (by omega) (fun o' y1 y2 => ?_) (by omega) ?_
      · by_cases e : o' = o
        · rw [e]
          omega
        · have := h1 o' (by omega) y2
          omega
      · rcases Int.le_total v (valb (σ 133 0) (σ 136 0) wd F o p) with y | y
        · exact Or.inr ⟨o, by omega, hy, by omega⟩
        · rw [show max v (valb (σ 133 0) (σ 136 0) wd F o p) = v by omega]
          exact h3
    · rw [eok] at hy
      rw [eS]
      refine ih (o + 1) n v (by omega) (by omega) v1 v2 (fun o' y1 y2 => ?_) h2 h3
      by_cases e : o' = o
      · rw [e] at y2
        exact absurd y2 hy
      · exact h1 o' (by omega) y2
theorem br_loop {σ : St} {l wd : Nat} {K : St → Int → Int → Prop} {Q : Int → St → Prop} (hO : OrdR σ) (hL : LgR σ l wd)
    (q : ∀ F : Nat → Int, F wd = 0 → (∀ p, p < wd → CAt (σ 12 0 71).toNat (okR σ l) (valb (σ 133 0) (σ 136 0) wd) F p) → (∀ i, i ≤ wd → 0 ≤ F i ∧ F i ≤ 99 * ((wd : Int) - i)) → K (sta σ 139 0 F) l wd) :
    ∀ (c n : Nat) (F : Nat → Int), c ≤ wd → c < n → F wd = 0 → (∀ p, c ≤ p → p < wd → CAt (σ 12 0 71).toNat (okR σ l) (valb (σ 133 0) (σ 136 0) wd) F p) → (∀ i, c ≤ i → i ≤ wd → 0 ≤ F i ∧ F i ≤ 99 * ((wd : Int) - i)) → wp_X12_lays__18 K Q n (sta σ 139 0 F) l wd ((c : Int) - 1) := by
  have hN := hO.1
  have hw := hL.2.2.2.1
  have hT : ∀ o, o < (σ 12 0 71).toNat → 1 ≤ σ 133 0 o := fun o ho => (hO.2 o (by omega)).1
  intro c
  induction c with
  | zero =>
    intro n F hc hn h0 hb hF
    obtain ⟨n, rfl⟩ : ∃ n', n = n' + 1 := ⟨n - 1, by omega⟩
    unfold wp_X12_lays__18
    exact ⟨⟨by omega, by omega⟩, fun _ => q F h0 (fun p hp => hb p (by omega) hp) (fun i hi => hF i (by omega) hi), fun z => absurd (by omega) z⟩
  | succ c ih =>
    intro n F hc hn h0 hb hF
    obtain ⟨n, rfl⟩ : ∃ n', n = n' + 1 := ⟨n - 1, by omega⟩
    have fc := hF (c + 1) (by omega) (by omega)
    unfold wp_X12_lays__18
    rw [show (((c + 1 : Nat) : Int) - 1) = (c : Int) by omega, Int.toNat_natCast, show Int.toNat ((c : Int) + 1) = c + 1 by omega, ra_eq]
    refine ⟨⟨by omega, by omega⟩, fun z => absurd z (by omega), fun _ => ⟨by omega, by omega, by omega, by omega, fun s1 e1 => ⟨31, ?_⟩⟩⟩
    rw [st_stae] at e1
    rw [e1]
    refine mo_loop hO hL (by omega) (fun i i1 i2 => by have := hF i (by omega) i2; omega) (fun v m1 m2 m3 => ?_) (σ 12 0 71).toNat 0 31 (F (c + 1)) (by omega) (by omega) (by omega) (by omega) (fun o' y => absurd y (by omega)) (Int.le_refl _) (Or.inl rfl)
    unfold wp_X12_lays__101
    rw [show (c : Int) + (-1) = (c : Int) - 1 by omega]
    have vbd : 0 ≤ v ∧ v ≤ 99 * ((wd : Int) - c) := by
      refine ⟨by omega, ?_⟩
      rcases m3 with y | ⟨o, y1, y2, y3⟩
      · omega
      · have oo := hO.2 o (by omega)
        have eb : c < afb (σ 133 0) wd o c ∧ afb (σ 133 0) wd o c ≤ wd := by unfold afb; omega
        have fb := hF _ (by omega) eb.2
        unfold valb at y3
        omega
    have ne : ∀ p i, c ≤ p → p < i → up F c v i = F i := fun p i i1 i2 => up_ne (by omega)
    have ev : ∀ p o, c ≤ p → p < wd → o < (σ 12 0 71).toNat → valb (σ 133 0) (σ 136 0) wd (up F c v) o p = valb (σ 133 0) (σ 136 0) wd F o p := fun p o p1 p2 ho => by
      have t := hT o ho
      unfold valb
      rw [ne p _ p1 (by unfold afb; omega)]
    refine ih n _ (by omega) (by omega) (by rw [up_ne (by omega)]; exact h0) (fun p p1 p2 => ?_) (fun i i1 i2 => ?_)
    · by_cases e : p = c
      · subst e
        refine ⟨fun o y1 y2 => by rw [ev p o (by omega) p2 y1, up_eq]; exact m1 o y1 y2, by rw [ne p (p + 1) (by omega) (by omega), up_eq]; exact m2, ?_⟩
        rcases m3 with y | ⟨o, y1, y2, y3⟩
        · exact Or.inl (by rw [up_eq, ne p (p + 1) (by omega) (by omega)]; exact y)
        · exact Or.inr ⟨o, y1, y2, by rw [ev p o (by omega) p2 y1, up_eq]; exact y3⟩
      · obtain ⟨b1, b2, b3⟩ := hb p (by omega) p2
        have e2 : up F c v p = F p := up_ne e
        have e3 : up F c v (p + 1) = F (p + 1) := up_ne (by omega)
        refine ⟨fun o y1 y2 => by rw [ev p o (by omega) p2 y1, e2]; exact b1 o y1 y2, by rw [e2, e3]; exact b2, ?_⟩
        rcases b3 with y | ⟨o, y1, y2, y3⟩
        · exact Or.inl (by rw [e2, e3]; exact y)
        · exact Or.inr ⟨o, y1, y2, by rw [ev p o (by omega) p2 y1, e2]; exact y3⟩
    · by_cases e : i = c
      · rw [e, up_eq]
        exact vbd
      · rw [up_ne e]
        exact hF i (by omega) i2
