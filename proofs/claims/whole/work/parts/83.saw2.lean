/-! how a log is sawn: what begins where -/
def nxp (G T : Nat → Int) (wd : Int) (p : Nat) : Nat := if G p = -2 then p + 1 else afb T wd (G p).toNat p
def NXT (G T : Nat → Int) (wd : Int) : Nat → Nat
  | 0 => 0
  | p + 1 => if NXT G T wd p = p then nxp G T wd p else NXT G T wd p
def bgv (G T : Nat → Int) (wd : Int) (p : Nat) : Int := if NXT G T wd p = p then G p else -2
theorem NXT_le {G T : Nat → Int} {wd N : Nat} (hT : ∀ o, o < N → 1 ≤ T o) (hG : ∀ p, p < wd → G p = -2 ∨ (0 ≤ G p ∧ G p < N)) : ∀ p, p ≤ wd → p ≤ NXT G T wd p ∧ NXT G T wd p ≤ wd := by
  intro p
  induction p with
  | zero => intro _; exact ⟨Nat.le_refl _, Nat.zero_le _⟩
  | succ p ih =>
    intro hp
    have a := ih (by omega)
    unfold NXT
    by_cases c : NXT G T wd p = p
    · rw [if_pos c]
      unfold nxp
      by_cases d : G p = -2
      · rw [if_pos d]
        omega
      · rw [if_neg d]
        have g := hG p (by omega)
        have t := hT (G p).toNat (by omega)
        unfold afb
        omega
    · rw [if_neg c]
      omega
theorem KAt_b {N : Nat} {Ok : Nat → Nat → Prop} {val : (Nat → Int) → Nat → Nat → Int} {b : Nat → Int} {p : Nat} {g : Int} (h : KAt N Ok val b p g) : g = -2 ∨ (0 ≤ g ∧ g < N) := by
  rcases h with ⟨a, -⟩ | ⟨o, a, b, -⟩
  · exact Or.inl a
  · exact Or.inr (by omega)
theorem bgn_loop {S : St} {wd : Nat} {Q : St → Prop} (hwd : wd ≤ 34) (hN : 0 ≤ S 6 0 6 ∧ S 6 0 6 ≤ 30) (hT : ∀ o, o < (S 6 0 6).toNat → 1 ≤ S 55 0 o ∧ S 55 0 o ≤ 12) (hG : ∀ p, p < wd → S 62 0 p = -2 ∨ (0 ≤ S 62 0 p ∧ S 62 0 p < (S 6 0 6).toNat)) (q : ∀ f, (∀ p, p < wd → f p = bgv (S 62 0) (S 55 0) wd p) → Q (sta S 63 0 f)) :
    ∀ (c p n : Nat) (f : Nat → Int), p + c = wd → c < n → (∀ r, r < p → f r = bgv (S 62 0) (S 55 0) wd r) → wp_X6_plan_48 Q n (sta S 63 0 f) wd (NXT (S 62 0) (S 55 0) wd p : Nat) p := by
  intro c
  induction c with
  | zero =>
    intro p n f hp hn hf
    obtain ⟨n, rfl⟩ : ∃ n', n = n' + 1 := ⟨n - 1, by omega⟩
    unfold wp_X6_plan_48
    exact ⟨⟨by omega, by omega⟩, ⟨by omega, by omega⟩, fun _ => q f (fun r hr => hf r (by omega)), fun z => absurd (by omega) z⟩
  | succ c ih =>
    intro p n f hp hn hf
    obtain ⟨n, rfl⟩ : ∃ n', n = n' + 1 := ⟨n - 1, by omega⟩
    have nb := NXT_le (G := S 62 0) (T := S 55 0) (N := (S 6 0 6).toNat) (wd := wd) (fun o ho => (hT o ho).1) hG p (by omega)
    have gp := hG p (by omega)
    have ns : NXT (S 62 0) (S 55 0) wd (p + 1) = if NXT (S 62 0) (S 55 0) wd p = p then nxp (S 62 0) (S 55 0) wd p else NXT (S 62 0) (S 55 0) wd p := rfl
    have bs : bgv (S 62 0) (S 55 0) wd p = if NXT (S 62 0) (S 55 0) wd p = p then S 62 0 p else -2 := rfl
    unfold wp_X6_plan_48 wp_X6_plan_117 wp_X6_plan_119
    rw [Int.toNat_natCast, show ((p : Int) + 1) = ((p + 1 : Nat) : Int) by omega]
    refine ⟨⟨by omega, by omega⟩, ⟨by omega, by omega⟩, fun z => absurd z (by omega), fun _ => ⟨by omega, by omega, fun s1 e1 => ?_⟩⟩
    rw [st_stae] at e1
    have r62 : s1 62 = S 62 := by rw [e1, ra_ne (by decide)]
    refine ⟨⟨by omega, by omega⟩, ⟨by omega, by omega⟩, fun d => ?_, fun d => ⟨by omega, by omega, by omega, by omega, fun s2 e2 => ?_⟩⟩
    · have d2 : ¬ NXT (S 62 0) (S 55 0) wd p = p := by omega
      have e := ih (p + 1) n (up f p (-2)) (by omega) (by omega) (fun r hr => ?_)
      · rw [ns, if_neg d2] at e
        rw [e1]
        exact e
      · by_cases y : r = p
        · rw [y, up_eq, bs, if_neg d2]
        · rw [up_ne y]
          exact hf r (by omega)
    · have d2 : NXT (S 62 0) (S 55 0) wd p = p := by omega
      rw [r62, e1, st_stae, up_up] at e2
      have r622 : s2 62 = S 62 := by rw [e2, ra_ne (by decide)]
      have hf2 : ∀ r, r < p + 1 → up f p (S 62 0 p) r = bgv (S 62 0) (S 55 0) wd r := fun r hr => by
        by_cases y : r = p
        · rw [y, up_eq, bs, if_pos d2]
        · rw [up_ne y]
          exact hf r (by omega)
      have e := ih (p + 1) n (up f p (S 62 0 p)) (by omega) (by omega) hf2
      rw [ns, if_pos d2] at e
      unfold nxp at e
      rw [r622]
      refine ⟨by omega, by omega, ⟨by omega, by omega⟩, fun y => ⟨by omega, by omega, ?_⟩, fun y => ?_⟩
      · rw [if_neg y] at e
        have t := hT (S 62 0 p).toNat (by omega)
        have r55 : s2 55 = S 55 := by rw [e2, ra_ne (by decide)]
        unfold wp_X6_behind
        rw [r55]
        refine ⟨by omega, by omega, j_min ⟨by omega, by omega⟩ ⟨by omega, by omega⟩ ?_⟩
        rw [e2]
        have ea : ((afb (S 55 0) wd (S 62 0 p).toNat p : Nat) : Int) = min (wd : Int) ((p : Int) + S 55 0 (S 62 0 p).toNat + 1) := by
          unfold afb
          omega
        rw [ea] at e
        exact e
      · rw [if_pos y] at e
        rw [e2]
        exact e
/-- the plan of a log, of the class -/
theorem sx_plan {σ : St} {j wd : Nat} {td : Int} {Q : St → Prop} (hO : OrdX σ) (hu : inR (σ 4 j 1)) (ht : inR td) (hw : σ 4 j 2 = wd) (h1 : 1 ≤ wd) (hwd : wd ≤ 34) (hf : inR (σ 4 j 4)) (hl : σ 50 4 j ≠ 0)
    (q : ∀ F G f : Nat → Int, F wd = 0 → (∀ p, p < wd → CAt (σ 6 0 6).toNat (okX σ j td) (valb (σ 55 0) (σ 58 0) wd) F p ∧ KAt (σ 6 0 6).toNat (okX σ j td) (valb (σ 55 0) (σ 58 0) wd) F p (G p)) → (∀ p, p < wd → f p = bgv G (σ 55 0) wd p) → Q (sta (sta (sta σ 61 0 F) 62 0 G) 63 0 f)) : wp_X6_plan σ j td Q := by
  have hN := hO.1
  unfold wp_X6_plan
  rw [hw]
  refine ⟨hl, j_min ⟨by omega, by omega⟩ ⟨by decide, by decide⟩ ?_⟩
  rw [show min (wd : Int) 34 = (wd : Int) by omega]
  refine ⟨by omega, by omega, fun s1 e1 v e => ⟨36, ?_⟩⟩
  rw [Int.toNat_natCast, st_sta] at e1
  have E := pl_loop (σ := σ) (j := j) (wd := wd) (td := td) (K := wp_X6_plan_42 Q) (Q := Q) hO hu ht hw hwd hf hl ?_ wd 36 (up (σ 61 0) wd 0) (σ 62 0) (by omega) (by omega) up_eq (fun p p1 p2 => absurd p2 (by omega)) (fun i i1 i2 => by rw [show i = wd by omega, up_eq]; omega)
  · have es : sta (sta σ 61 0 (up (σ 61 0) wd 0)) 62 0 (σ 62 0) = s1 := by
      rw [e1]
      have : (sta σ 61 0 (up (σ 61 0) wd 0)) 62 0 = σ 62 0 := by rw [ra_ne (by decide)]
      rw [← this, sta_self]
    rw [es, ← e] at E
    exact E
  intro F G h0 hb
  obtain ⟨S, eS⟩ : ∃ S : St, S = sta (sta σ 61 0 F) 62 0 G := ⟨_, rfl⟩
  have rk : ∀ k, ¬ k = 61 → ¬ k = 62 → S k = σ k := fun k k1 k2 => by rw [eS, ra_ne k2, ra_ne k1]
  have r62 : S 62 0 = G := by rw [eS, ra_eq]
  have B := bgn_loop (S := S) (wd := wd) (Q := Q) hwd (by rw [rk 6 (by decide) (by decide)]; exact hN) (by rw [rk 6 (by decide) (by decide), rk 55 (by decide) (by decide)]; exact fun o ho => by have := hO.2 o (by omega); omega) (by rw [r62, rk 6 (by decide) (by decide)]; exact fun p hp => KAt_b (hb p hp).2) (fun f hf => ?_) wd 0 36 (S 63 0) (by omega) (by omega) (fun r hr => absurd hr (by omega))
  · rw [sta_self, eS] at B
    exact ⟨36, B⟩
  · rw [r62, rk 55 (by decide) (by decide)] at hf
    rw [eS]
    exact q F G f h0 hb hf
