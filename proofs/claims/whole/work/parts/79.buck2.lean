/-! the pieces of the greatest worth: the class -/
theorem st_cm {σ : St} {k j i k' j' i' : Nat} {v v' : Int} (h : ¬ k' = k) : st (st σ k j i v) k' j' i' v' = st (st σ k' j' i' v') k j i v := by
  rw [st_sta (σ := st σ k j i v), st_sta (σ := σ) (k := k), st_sta (σ := st σ k' j' i' v'), st_sta (σ := σ) (k := k'), ra_ne h, ra_ne (fun e => h e.symm), sta_cm (fun e => h e.1)]
theorem st_st {σ : St} {k j i : Nat} {v v' : Int} : st (st σ k j i v) k j i v' = st σ k j i v' := by
  rw [st_sta (σ := σ) (v := v), st_stae, up_up, ← st_sta]
theorem BAt_congr {P W b b' : Nat → Int} {all a : Nat} (h : ∀ i, a ≤ i → b i = b' i) (hb : BAt P W all b a) : BAt P W all b' a := by
  obtain ⟨h1, h2⟩ := hb
  have e : ∀ u, gn P W b' a u = gn P W b a u := fun u => (gn_congr (h (a + u) (by omega))).symm
  refine ⟨fun c => by rw [← h a (by omega)]; exact h1 c, fun c => ?_⟩
  obtain ⟨m, u, u1, u2, u3, u4⟩ := h2 c
  exact ⟨fun u a1 a2 a3 => by rw [e, ← h a (by omega)]; exact m u a1 a2 a3, u, u1, u2, u3, by rw [e, ← h a (by omega)]; exact u4⟩
theorem PAt_congr {P W b b' : Nat → Int} {all a : Nat} {g : Int} (h : ∀ i, a ≤ i → i ≤ all → b i = b' i) (ha : a ≤ all) (hb : PAt P W all b a g) : PAt P W all b' a g := by
  obtain ⟨h1, h2⟩ := hb
  refine ⟨h1, fun c => ?_⟩
  obtain ⟨u, e, u1, u2, u3, u4, u5⟩ := h2 c
  refine ⟨u, e, u1, u2, u3, ?_, fun u' a1 a2 => ?_⟩
  · rw [← h a (by omega) ha, ← gn_congr (h (a + u) (by omega) u3)]
    exact u4
  · rw [← h a (by omega) ha, ← gn_congr (h (a + u') (by omega) (by omega))]
    exact u5 u' a1 a2
theorem PAt_uni {P W b : Nat → Int} {all a : Nat} {g g' : Int} (h : PAt P W all b a g) (h' : PAt P W all b a g') : g' = g := by
  by_cases c : all < a + 2
  · rw [h.1 c, h'.1 c]
  · obtain ⟨u, e, u1, u2, u3, u4, u5⟩ := h.2 (by omega)
    obtain ⟨w, f, w1, w2, w3, w4, w5⟩ := h'.2 (by omega)
    rcases Nat.lt_trichotomy u w with z | z | z
    · exact absurd u4 (w5 u u1 z)
    · omega
    · exact absurd w4 (u5 w w1 z)
def walk (pk : Nat → Int) : Nat → Nat
  | 0 => 0
  | i + 1 => walk pk i + (pk (walk pk i)).toNat
theorem walk_b {P W b pk : Nat → Int} {all : Nat} (h : ∀ a, a ≤ all → PAt P W all b a (pk a)) : ∀ i, (∀ j, j < i → walk pk j + 2 ≤ all) → 2 * i ≤ walk pk i ∧ walk pk i ≤ all := by
  intro i
  induction i with
  | zero => intro _; exact ⟨Nat.le_refl _, Nat.zero_le _⟩
  | succ i ih =>
    intro hj
    have a := ih (fun j hj2 => hj j (by omega))
    have c := hj i (by omega)
    obtain ⟨u, e, u1, u2, u3, -⟩ := (h (walk pk i) (by omega)).2 c
    show 2 * (i + 1) ≤ walk pk i + (pk (walk pk i)).toNat ∧ walk pk i + (pk (walk pk i)).toNat ≤ all
    rw [e, Int.toNat_natCast]
    omega
/-- m pieces, one behind the other, to the stem's end -/
def Pcs (all : Nat) (pk f : Nat → Int) (m : Nat) : Prop := m ≤ 5 ∧ (∀ i, i < m → walk pk i + 2 ≤ all ∧ f i = pk (walk pk i)) ∧ all < walk pk m + 2
theorem path_loop {S : St} {P W b : Nat → Int} {all : Nat} {K : St → Prop} {Q : Int → St → Prop} (hall : all ≤ 10) (h : ∀ a, a ≤ all → PAt P W all b a (S 22 0 a)) (q : ∀ f m, Pcs all (S 22 0) f m → K (st (sta S 23 0 f) 0 0 4 m)) :
    ∀ (c i n : Nat) (f : Nat → Int), i + c = 5 → c < n → (∀ j, j < i → walk (S 22 0) j + 2 ≤ all ∧ f j = S 22 0 (walk (S 22 0) j)) → wp_X0_chooseBest_41 K Q n (st (sta S 23 0 f) 0 0 4 i) (walk (S 22 0) i : Nat) i := by
  intro c
  induction c with
  | zero =>
    intro i n f hi hn hf
    obtain ⟨n, rfl⟩ : ∃ n', n = n' + 1 := ⟨n - 1, by omega⟩
    have wb := walk_b h i (fun j hj => (hf j hj).1)
    unfold wp_X0_chooseBest_41
    exact ⟨⟨by omega, by omega⟩, fun _ => q f i ⟨by omega, hf, by omega⟩, fun z => absurd (by omega) z⟩
  | succ c ih =>
    intro i n f hi hn hf
    obtain ⟨n, rfl⟩ : ∃ n', n = n' + 1 := ⟨n - 1, by omega⟩
    have wb := walk_b h i (fun j hj => (hf j hj).1)
    have pa := h (walk (S 22 0) i) wb.2
    have r22 : st (sta S 23 0 f) 0 0 4 (i : Int) 22 = S 22 := by rw [rs_ne (by decide), ra_ne (by decide)]
    have pb : 0 ≤ S 22 0 (walk (S 22 0) i) ∧ S 22 0 (walk (S 22 0) i) ≤ 6 := by
      by_cases c : all < walk (S 22 0) i + 2
      · have := pa.1 c
        omega
      · obtain ⟨u, e, u1, u2, -⟩ := pa.2 (by omega)
        omega
    unfold wp_X0_chooseBest_41
    rw [r22, Int.toNat_natCast]
    refine ⟨⟨by omega, by omega⟩, fun z => absurd z (by omega), fun _ => ⟨by omega, by omega, ⟨by omega, by omega⟩, fun z => q f i ⟨by omega, hf, ?_⟩, fun z => ⟨by omega, by omega, by omega, by omega, fun s1 e1 => ⟨by omega, by omega, fun v e => ?_⟩⟩⟩⟩
    · by_cases c : all < walk (S 22 0) i + 2
      · exact c
      · obtain ⟨u, e, u1, u2, -⟩ := pa.2 (by omega)
        omega
    · intro s2 e2
      rw [st_cm (by decide), st_stae, Int.toNat_natCast] at e1
      have r1 : s1 22 = S 22 := by rw [e1, rs_ne (by decide), ra_ne (by decide)]
      have r2 : s1 0 0 4 = (i : Int) := by rw [e1, rs_eq, up_eq]
      rw [r1] at e
      rw [r2, e1, st_st] at e2
      have ev : v = ((walk (S 22 0) (i + 1) : Nat) : Int) := by
        show v = ((walk (S 22 0) i + (S 22 0 (walk (S 22 0) i)).toNat : Nat) : Int)
        omega
      rw [e2, ev, show ((i : Int) + 1) = ((i + 1 : Nat) : Int) by omega]
      refine ih (i + 1) n _ (by omega) (by omega) (fun j hj => ?_)
      by_cases y : j = i
      · rw [y, up_eq]
        refine ⟨?_, rfl⟩
        by_cases c : all < walk (S 22 0) i + 2
        · have := pa.1 c
          omega
        · omega
      · rw [up_ne y]
        exact hf j (by omega)
theorem best_loop {σ : St} {s k : Int} {all : Nat} {K : St → Prop} {Q : Int → St → Prop} (hs : 0 ≤ s ∧ s ≤ 3) (hk : 0 ≤ k ∧ k ≤ 3) (ht : ∀ i, i < 4 → 1 ≤ σ 33 0 i ∧ σ 33 0 i ≤ 3) (hp : ∀ i, 0 ≤ σ 20 0 i ∧ σ 20 0 i ≤ 99) (hall : (all : Int) = 4 + 2 * k)
    (q : ∀ F G, (∀ a, a ≤ all → BAt (σ 20 0) (fun e => wdv (σ 33 0) s k e) all F a ∧ PAt (σ 20 0) (fun e => wdv (σ 33 0) s k e) all F a (G a)) → K (sta (sta σ 21 0 F) 22 0 G)) :
    ∀ (c n : Nat) (F G : Nat → Int), c ≤ all + 1 → c < n → (∀ a, c ≤ a → a ≤ all → BAt (σ 20 0) (fun e => wdv (σ 33 0) s k e) all F a ∧ PAt (σ 20 0) (fun e => wdv (σ 33 0) s k e) all F a (G a)) → (∀ i, c ≤ i → i ≤ all → 0 ≤ F i ∧ F i ≤ 3366 * ((all : Int) - i)) → wp_X0_chooseBest_10 K Q n (sta (sta σ 21 0 F) 22 0 G) s k ((c : Int) - 1) := by
  intro c
  induction c with
  | zero =>
    intro n F G hc hn hb hF
    obtain ⟨n, rfl⟩ : ∃ n', n = n' + 1 := ⟨n - 1, by omega⟩
    unfold wp_X0_chooseBest_10
    exact ⟨⟨by omega, by omega⟩, fun _ => q F G (fun a ha => hb a (by omega) ha), fun z => absurd (by omega) z⟩
  | succ c ih =>
    intro n F G hc hn hb hF
    obtain ⟨n, rfl⟩ : ∃ n', n = n' + 1 := ⟨n - 1, by omega⟩
    unfold wp_X0_chooseBest_10
    rw [show (((c + 1 : Nat) : Int) - 1) = (c : Int) by omega]
    refine ⟨⟨by omega, by omega⟩, fun z => absurd z (by omega), fun _ => ?_⟩
    refine sx_weigh hs hk ht hp hall (by omega) (fun i i1 i2 => hF i (by omega) i2) (fun v g hv hB hP => ?_)
    rw [show (c : Int) + (-1) = (c : Int) - 1 by omega]
    refine ih n _ _ (by omega) (by omega) (fun a a1 a2 => ?_) (fun i i1 i2 => ?_)
    · by_cases e : a = c
      · subst e
        rw [up_eq]
        exact ⟨hB, hP⟩
      · rw [up_ne e]
        obtain ⟨b1, b2⟩ := hb a (by omega) a2
        exact ⟨BAt_congr (fun i hi => (up_ne (by omega)).symm) b1, PAt_congr (fun i hi _ => (up_ne (by omega)).symm) a2 b2⟩
    · by_cases e : i = c
      · rw [e, up_eq]
        exact hv
      · rw [up_ne e]
        exact hF i (by omega) i2
/-- the best is chosen, of the class -/
theorem sx_chooseBest {σ : St} {s k : Int} {all : Nat} {Q : Int → St → Prop} (hs : 0 ≤ s ∧ s ≤ 3) (hk : 0 ≤ k ∧ k ≤ 3) (ht : ∀ i, i < 4 → 1 ≤ σ 33 0 i ∧ σ 33 0 i ≤ 3) (hp : ∀ i, 0 ≤ σ 20 0 i ∧ σ 20 0 i ≤ 99) (hall : (all : Int) = 4 + 2 * k)
    (q : ∀ F G f m, (∀ a, a ≤ all → BAt (σ 20 0) (fun e => wdv (σ 33 0) s k e) all F a ∧ PAt (σ 20 0) (fun e => wdv (σ 33 0) s k e) all F a (G a)) → Pcs all G f m → Q (F 0) (st (sta (sta (sta σ 21 0 F) 22 0 G) 23 0 f) 0 0 4 m)) : wp_X0_chooseBest σ s k Q := by
  unfold wp_X0_chooseBest wp_X3_lengthOf
  have e := best_loop (σ := σ) (s := s) (k := k) (all := all) (K := wp_X0_chooseBest_30 Q) (Q := Q) hs hk ht hp hall ?_ (all + 1) 13 (σ 21 0) (σ 22 0) (by omega) (by omega) (fun a a1 a2 => absurd a1 (by omega)) (fun a a1 a2 => absurd a1 (by omega))
  · rw [sta_self, sta_self, show (((all + 1 : Nat) : Int) - 1) = 4 + 2 * k by omega] at e
    exact ⟨13, e⟩
  intro F G hB s1 e1
  refine ⟨7, ?_⟩
  obtain ⟨S, eS⟩ : ∃ S : St, S = sta (sta σ 21 0 F) 22 0 G := ⟨_, rfl⟩
  have hS : S 22 0 = G := by rw [eS, ra_eq]
  have hS1 : S 21 0 = F := by rw [eS, ra_ne (by decide), ra_eq]
  have pl := path_loop (S := S) (P := σ 20 0) (W := fun e => wdv (σ 33 0) s k e) (b := F) (all := all) (K := wp_X0_chooseBest_99 Q) (Q := Q) (by omega) (fun a ha => by rw [hS]; exact (hB a ha).2) (fun f m hp => ?_) 5 0 7 (S 23 0) (by omega) (by omega) (fun j hj => absurd hj (by omega))
  · rw [sta_self, eS] at pl
    rw [e1]
    exact pl
  · unfold wp_X0_chooseBest_99
    have r21 : st (sta S 23 0 f) 0 0 4 (m : Int) 21 0 = F := by rw [rs_ne (by decide), ra_ne (by decide), hS1]
    rw [r21, eS]
    rw [hS] at hp
    exact q F G f m hB hp
