/-! words and signs, of the reference -/
def MT (T : St) (b : Nat → Int) (z : Nat) (s : PS) : Prop := TpM T b z ∧ T 12 0 51 = s.kd ∧ T 12 0 48 = s.fr ∧ T 12 0 49 = s.to ∧ (s.kd = 2 → T 12 0 50 = nmv b s.fr (s.to - s.fr)) ∧ (s.kd = 3 → ¬ sgv (b s.fr) = -1) ∧ (s.fr ≤ s.to ∧ s.to ≤ z) ∧ (0 ≤ s.kd ∧ s.kd ≤ 4) ∧ (¬ s.kd = 0 → s.fr < z)
theorem isw0 {T : St} {j : Nat} {Q : Int → St → Prop} (hj : j < 27) (q : Q 0 T) : wp_X12_isWord_28 Q T j := by
  unfold wp_X12_isWord_28 wp_X12_isWord_29
  refine ⟨1, ?_⟩
  have sl := slen_d j hj
  unfold wp_X12_isWord_32
  refine ⟨hj, sj_len hj ⟨in0, ⟨by omega, by omega⟩, fun _ => ⟨Or.inl rfl, q⟩, fun _ => ⟨in0, fun _ => ⟨Or.inl rfl, q⟩, fun z => absurd rfl z⟩⟩⟩
theorem isw_loop {T : St} {b : Nat → Int} {z j fr to : Nat} {Q : Int → St → Prop} (hT : TpM T b z) (hj : j < 27) (h48 : T 12 0 48 = fr) (hft : (to : Int) - fr = slen j) (htz : to ≤ z) (q1 : prt b fr to j 0 (slen j).toNat → Q 1 T) (q0 : ¬ prt b fr to j 0 (slen j).toNat → Q 0 T) :
    ∀ (k i n : Nat), i + k = (slen j).toNat → k + 1 < n → (∀ i', i' < i → sbyt j (0 + i') = b (fr + i')) → wp_X12_isWord_32 Q n T j 1 i := by
  have sl := slen_d j hj
  have h3 := hT.2.1
  intro k
  induction k with
  | zero =>
    intro i n hk hn h
    obtain ⟨n, rfl⟩ : ∃ n', n = n' + 1 := ⟨n - 1, by omega⟩
    unfold wp_X12_isWord_32
    refine ⟨hj, sj_len hj ⟨⟨by omega, by omega⟩, ⟨by omega, by omega⟩, fun _ => ⟨Or.inr rfl, q1 ⟨by omega, fun i' hi' => h i' (by omega)⟩⟩, fun z => absurd (by omega) z⟩⟩
  | succ k ih =>
    intro i n hk hn h
    obtain ⟨n, rfl⟩ : ∃ n', n = n' + 1 := ⟨n - 1, by omega⟩
    have bf := hT.2.2.2 (fr + i)
    obtain ⟨-, d2, d3⟩ := sbyt_d j hj i (by omega)
    unfold wp_X12_isWord_32 wp_X12_isWord_67
    refine ⟨hj, sj_len hj ⟨⟨by omega, by omega⟩, ⟨by omega, by omega⟩, fun z => absurd z (by omega), fun _ => ⟨in1, fun z => absurd z (by decide), fun _ => ?_⟩⟩⟩
    rw [h48]
    refine sm_byteAt (p := fr + i) hT (by omega) (by omega) ⟨hj, sj_char (k := i) hj rfl (by omega) ?_⟩
    rw [if_pos (by omega), show ((i : Int) + 1) = ((i + 1 : Nat) : Int) by omega]
    refine ⟨⟨by omega, by omega⟩, ⟨by omega, by omega⟩, fun e => ?_, fun e => ih (i + 1) n (by omega) (by omega) (fun i' hi' => ?_)⟩
    · have nq := q0 (fun w => e (by have := w.2 i (by omega); rw [Nat.zero_add] at this; exact this.symm))
      obtain ⟨n, rfl⟩ : ∃ n', n = n' + 1 := ⟨n - 1, by omega⟩
      unfold wp_X12_isWord_32
      exact ⟨hj, sj_len hj ⟨⟨by omega, by omega⟩, ⟨by omega, by omega⟩, fun _ => ⟨Or.inl rfl, nq⟩, fun _ => ⟨in0, fun _ => ⟨Or.inl rfl, nq⟩, fun z => absurd rfl z⟩⟩⟩
    · by_cases c : i' = i
      · rw [c, Nat.zero_add]; exact e.symm
      · exact h i' (by omega)
theorem sm_isWord {T : St} {b : Nat → Int} {z j : Nat} {s : PS} {Q : Int → St → Prop} (hM : MT T b z s) (hj : j < 27) (q1 : isW b s.kd s.fr s.to j → Q 1 T) (q0 : ¬ isW b s.kd s.fr s.to j → Q 0 T) : wp_X12_isWord T j Q := by
  obtain ⟨hT, m51, m48, m49, -, -, ⟨f1, f2⟩, k1, -⟩ := hM
  have sl := slen_d j hj
  have h3 := hT.2.1
  unfold wp_X12_isWord
  rw [m51, m49, m48]
  refine ⟨⟨by omega, by omega⟩, fun c => isw0 hj (q0 (fun w => c w.1)), fun c => ⟨hj, sj_len hj ⟨⟨by omega, by omega⟩, ⟨by omega, by omega⟩, fun e => isw0 hj (q0 (fun w => e (by have := w.2.1; omega))), fun e => ?_⟩⟩⟩
  unfold wp_X12_isWord_29
  exact ⟨(slen j).toNat + 2, isw_loop hT hj m48 e f2 (fun w => q1 ⟨c, w⟩) (fun w => q0 (fun v => w v.2)) (slen j).toNat 0 _ (by omega) (by omega) (fun i' hi' => absurd hi' (by omega))⟩
theorem sm_fw {T : St} {k : Nat} {Q : Nat → St → Prop} (hk : k < 13) (q : Q (14 + k) T) : wp_X12_factWord T k Q := by
  unfold wp_X12_factWord
  have g : ∀ m : Nat, k = m → Q (14 + m) T := fun m e => by rw [← e]; exact q
  exact ⟨⟨by omega, by omega⟩, fun e => g 0 (by omega), fun e => g 1 (by omega), fun e => g 2 (by omega), fun e => g 3 (by omega), fun e => g 4 (by omega), fun e => g 5 (by omega), fun e => g 6 (by omega), fun e => g 7 (by omega), fun e => g 8 (by omega), fun e => g 9 (by omega), fun e => g 10 (by omega), fun e => g 11 (by omega), fun e => g 12 (by omega)⟩
theorem fact_loop {T : St} {b : Nat → Int} {z : Nat} {s : PS} {Q : Int → St → Prop} (hM : MT T b z s) : ∀ (f k n : Nat), k + f = 13 → f < n → Q (fcI (isW b s.kd s.fr s.to) f k) T → wp_X12_factHere_2 Q n T k := by
  intro f
  induction f with
  | zero =>
    intro k n hk hn q
    obtain ⟨n, rfl⟩ : ∃ n', n = n' + 1 := ⟨n - 1, by omega⟩
    unfold wp_X12_factHere_2
    exact ⟨⟨by omega, by omega⟩, fun _ => q, fun z => absurd (by omega) z⟩
  | succ f ih =>
    intro k n hk hn q
    obtain ⟨n, rfl⟩ : ∃ n', n = n' + 1 := ⟨n - 1, by omega⟩
    have e : fcI (isW b s.kd s.fr s.to) (f + 1) k = cif (isW b s.kd s.fr s.to (14 + k)) (k : Int) (fcI (isW b s.kd s.fr s.to) f (k + 1)) := rfl
    rw [e] at q
    unfold wp_X12_factHere_2
    rw [show ((k : Int) + 1) = ((k + 1 : Nat) : Int) by omega]
    refine ⟨⟨by omega, by omega⟩, fun z => absurd z (by omega), fun _ => sm_fw (by omega) (sm_isWord hM (by omega) (fun w => ⟨in1, fun c => absurd c (by decide), fun _ => ?_⟩) (fun w => ⟨in0, fun _ => ?_, fun c => absurd rfl c⟩))⟩
    · rw [cif_p w] at q
      exact q
    · rw [cif_n w] at q
      exact ih (k + 1) n (by omega) (by omega) q
theorem sm_fact {T : St} {b : Nat → Int} {z : Nat} {s : PS} {Q : Int → St → Prop} (hM : MT T b z s) (q : Q (fcI (isW b s.kd s.fr s.to) 13 0) T) : wp_X12_factHere T Q := ⟨14, fact_loop hM 13 0 14 (by omega) (by omega) q⟩
theorem sm_sgn {T : St} {b : Nat → Int} {z : Nat} {s : PS} {Q : Int → St → Prop} (hM : MT T b z s) (q : Q (sgI b s) T) : wp_X12_signHere T Q := by
  obtain ⟨hT, m51, m48, m49, -, g3, ⟨f1, f2⟩, k1, k3⟩ := hM
  have h3 := hT.2.1
  have bf := hT.2.2.2 s.fr
  unfold sgI at q
  unfold wp_X12_signHere
  rw [m51, m48]
  refine ⟨⟨by omega, by omega⟩, fun c => ?_, fun c => ?_⟩
  · rw [cif_p c] at q
    have lt := k3 (by omega)
    have ns := g3 c
    refine sm_byteAt hT rfl (by omega) ?_
    rw [if_pos lt]
    unfold sgv at q ns
    refine ⟨⟨by omega, by omega⟩, fun n0 => ⟨⟨by omega, by omega⟩, fun n1 => ⟨⟨by omega, by omega⟩, fun n2 => ?_, fun y => ?_⟩, fun y => ?_⟩, fun y => ?_⟩
    · rw [if_neg n0, if_neg n1, if_neg n2] at q ns
      by_cases y : b s.fr = 59
      · rw [if_pos y] at q
        exact q
      · rw [if_neg y] at ns
        exact absurd rfl ns
    · rw [if_neg n0, if_neg n1, if_pos y] at q
      exact q
    · rw [if_neg n0, if_pos y] at q
      exact q
    · rw [if_pos y] at q
      exact q
  · rw [cif_n c] at q
    exact q
theorem MT_adv {T T' : St} {b : Nat → Int} {z : Nat} {s : PS} (hT : TpM T b z) (hz : s.to ≤ z) (hn : NxM T T' b (tkK b z s.to) (tkF b z s.to) (tkT b z s.to)) : MT T' b z (adv b z s) := by
  obtain ⟨n1, n2, n3, n4, n5, n6, n7⟩ := hn
  obtain ⟨t1, t2, t3, t4, t5, t6, t7, t8⟩ := tk_b (b := b) hz
  obtain ⟨a1, a2, a3, a4⟩ := hT
  exact ⟨⟨by rw [n2 44 (by decide) (by decide) (by decide) (by decide)]; exact a1, a2, fun i hi => by rw [n1 118 (by decide)]; exact a3 i hi, a4⟩, n3, n4, n5, n6, n7, ⟨t2, t3⟩, ⟨t7, t8⟩, fun c => (t5 c).1⟩
/-- rows of a statement: as read, against the reference's scratch -/
def RowF (s : PS) (A B C D E F G : Nat → Int) (k : Nat) : Prop := Stm (s.vb k) (s.ob k) (A (240 + k)) (B (240 + k)) ∧ C (240 + k) = s.tm k ∧ (1 ≤ s.tm k ∧ s.tm k ≤ 5) ∧ ∀ q : Nat, (q : Int) < s.tm k → Trm (s.ng (5 * k + q)) (s.wd (5 * k + q)) (s.rl (5 * k + q)) (s.vl (5 * k + q)) (D (1200 + (5 * k + q))) (E (1200 + (5 * k + q))) (F (1200 + (5 * k + q))) (G (1200 + (5 * k + q)))
theorem RowF_c {s s' : PS} {A B C D E F G A' B' C' D' E' F' G' : Nat → Int} {k r : Nat} (hk : k < r) (h : RowF s A B C D E F G k) (e1 : ∀ i, i < r → s'.vb i = s.vb i ∧ s'.ob i = s.ob i ∧ s'.tm i = s.tm i) (e2 : ∀ i, i < 5 * r → s'.ng i = s.ng i ∧ s'.wd i = s.wd i ∧ s'.rl i = s.rl i ∧ s'.vl i = s.vl i) (e3 : ∀ i, i < 240 + r → A' i = A i ∧ B' i = B i ∧ C' i = C i) (e4 : ∀ i, i < 1200 + 5 * r → D' i = D i ∧ E' i = E i ∧ F' i = F i ∧ G' i = G i) : RowF s' A' B' C' D' E' F' G' k := by
  obtain ⟨h1, h2, h3, h4⟩ := h
  obtain ⟨a1, a2, a3⟩ := e1 k hk
  obtain ⟨c1, c2, c3⟩ := e3 (240 + k) (by omega)
  unfold RowF
  rw [a1, a2, a3, c1, c2, c3]
  refine ⟨h1, h2, h3, fun q hq => ?_⟩
  obtain ⟨d1, d2, d3, d4⟩ := e2 (5 * k + q) (by omega)
  obtain ⟨g1, g2, g3, g4⟩ := e4 (1200 + (5 * k + q)) (by omega)
  rw [d1, d2, d3, d4, g1, g2, g3, g4]
  exact h4 q hq
/-- the reference's other rows stand -/
def FrL2 (τ T : St) : Prop := (∀ k, ¬ k = 12 → (k < 111 ∨ 117 < k) → T k = τ k) ∧ (∀ i, (i < 45 ∨ 51 < i) → T 12 0 i = τ 12 0 i) ∧ (∀ i, i < 240 → T 111 0 i = τ 111 0 i ∧ T 112 0 i = τ 112 0 i ∧ T 113 0 i = τ 113 0 i) ∧ (∀ i, i < 1200 → T 114 0 i = τ 114 0 i ∧ T 115 0 i = τ 115 0 i ∧ T 116 0 i = τ 116 0 i ∧ T 117 0 i = τ 117 0 i) ∧ I_tn (T 114 0)
theorem FrL2_n {τ T T' : St} {b : Nat → Int} {kd : Int} {fr to : Nat} (h : FrL2 τ T) (hn : NxM T T' b kd fr to) : FrL2 τ T' := by
  obtain ⟨h1, h2, h3, h4, h5⟩ := h
  obtain ⟨n1, n2, -⟩ := hn
  refine ⟨fun k z1 z2 => by rw [n1 k z1]; exact h1 k z1 z2, fun i z => by rw [n2 i (by omega) (by omega) (by omega) (by omega)]; exact h2 i z, ?_, ?_, ?_⟩
  · rw [n1 111 (by decide), n1 112 (by decide), n1 113 (by decide)]
    exact h3
  · rw [n1 114 (by decide), n1 115 (by decide), n1 116 (by decide), n1 117 (by decide)]
    exact h4
  · rw [n1 114 (by decide)]
    exact h5
theorem FrL2_12 {τ T : St} {i : Nat} {v : Int} (h : FrL2 τ T) (hi : 45 ≤ i ∧ i ≤ 51) : FrL2 τ (st T 12 0 i v) := by
  obtain ⟨h1, h2, h3, h4, h5⟩ := h
  refine ⟨fun k z1 z2 => by rw [rs_ne z1]; exact h1 k z1 z2, fun j z => by rw [rs_eq, up_ne (by omega)]; exact h2 j z, ?_, ?_, ?_⟩
  · rw [rs_ne (show ¬ 111 = 12 by decide), rs_ne (show ¬ 112 = 12 by decide), rs_ne (show ¬ 113 = 12 by decide)]
    exact h3
  · rw [rs_ne (show ¬ 114 = 12 by decide), rs_ne (show ¬ 115 = 12 by decide), rs_ne (show ¬ 116 = 12 by decide), rs_ne (show ¬ 117 = 12 by decide)]
    exact h4
  · rw [rs_ne (show ¬ 114 = 12 by decide)]
    exact h5
theorem FrL2_a {τ T : St} {K i : Nat} {v : Int} (h : FrL2 τ T) (hK : K = 111 ∨ K = 112 ∨ K = 113) (hi : 240 ≤ i) : FrL2 τ (st T K 0 i v) := by
  obtain ⟨h1, h2, h3, h4, h5⟩ := h
  refine ⟨fun k z1 z2 => by rw [rs_ne (by omega)]; exact h1 k z1 z2, fun j z => by rw [rs_ne (by omega)]; exact h2 j z, fun j hj => ?_, ?_, ?_⟩
  · have g : ∀ k, st T K 0 i v k 0 j = T k 0 j := fun k => by
      by_cases e : k = K
      · subst e
        rw [rs_eq, up_ne (by omega)]
      · rw [rs_ne e]
    rw [g, g, g]
    exact h3 j hj
  · rw [rs_ne (show ¬ 114 = K by omega), rs_ne (show ¬ 115 = K by omega), rs_ne (show ¬ 116 = K by omega), rs_ne (show ¬ 117 = K by omega)]
    exact h4
  · rw [rs_ne (show ¬ 114 = K by omega)]
    exact h5
theorem FrL2_b {τ T : St} {K i : Nat} {v : Int} (h : FrL2 τ T) (hK : K = 114 ∨ K = 115 ∨ K = 116 ∨ K = 117) (hi : 1200 ≤ i) (hv : K = 114 → 0 ≤ v ∧ v ≤ 1) : FrL2 τ (st T K 0 i v) := by
  obtain ⟨h1, h2, h3, h4, h5⟩ := h
  refine ⟨fun k z1 z2 => by rw [rs_ne (by omega)]; exact h1 k z1 z2, fun j z => by rw [rs_ne (by omega)]; exact h2 j z, ?_, fun j hj => ?_, ?_⟩
  · rw [rs_ne (show ¬ 111 = K by omega), rs_ne (show ¬ 112 = K by omega), rs_ne (show ¬ 113 = K by omega)]
    exact h3
  · have g : ∀ k, st T K 0 i v k 0 j = T k 0 j := fun k => by
      by_cases e : k = K
      · subst e
        rw [rs_eq, up_ne (by omega)]
      · rw [rs_ne e]
    rw [g, g, g, g]
    exact h4 j hj
  · by_cases e : 114 = K
    · subst e
      rw [rs_eq]
      intro j
      unfold up
      split
      · exact hv rfl
      · exact h5 j
    · rw [rs_ne e]
      exact h5
