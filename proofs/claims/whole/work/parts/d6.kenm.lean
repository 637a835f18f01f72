/-! a text's tokens, of the reference -/
def TpM (T : St) (b : Nat → Int) (z : Nat) : Prop := T 12 0 44 = z ∧ z ≤ 300 ∧ (∀ i, i < z → i_iand (T 118 0 i) 255 = b i) ∧ ∀ i, 0 ≤ b i ∧ b i ≤ 255
theorem and255 {x : Int} (h : 0 ≤ x ∧ x ≤ 255) : i_iand (if x < 128 then x else x - 256) 255 = x := by
  have d : ∀ k, k < 256 → i_iand (if ((k : Nat) : Int) < 128 then ((k : Nat) : Int) else ((k : Nat) : Int) - 256) 255 = k := by decide +kernel
  have := d x.toNat (by omega)
  rw [Int.toNat_of_nonneg h.1] at this
  exact this
theorem sm_byteAt {T : St} {b : Nat → Int} {z p : Nat} {x : Int} {Q : Int → St → Prop} (hT : TpM T b z) (hx : x = (p : Int)) (hp : p ≤ 1000) (q : Q (if p < z then b p else 0) T) : wp_X12_byteAt T x Q := by
  obtain ⟨h1, h2, h3, h4⟩ := hT
  unfold wp_X12_byteAt
  rw [h1, hx, Int.toNat_natCast]
  refine ⟨⟨by omega, by omega⟩, ⟨by omega, by omega⟩, fun y => ?_, fun y => ⟨by omega, by omega, ?_⟩⟩
  · rw [if_neg (by omega)] at q
    exact q
  · rw [h3 p (by omega)]
    rw [if_pos (by omega)] at q
    exact q
theorem TpM_12 {T : St} {b : Nat → Int} {z i : Nat} {v : Int} (h : TpM T b z) (hi : ¬ 44 = i) : TpM (st T 12 0 i v) b z := by
  obtain ⟨h1, h2, h3, h4⟩ := h
  exact ⟨by rw [rs_eq, up_ne hi]; exact h1, h2, fun j hj => by rw [rs_ne (by decide)]; exact h3 j hj, h4⟩
theorem sst {T : St} {i : Nat} {v w : Int} : st (st T 12 0 i v) 12 0 i w = st T 12 0 i w := by
  rw [st_sta, rs_eq, up_up, st_sta, sta_sta, st_sta]
theorem n8_loop {T : St} {b : Nat → Int} {z : Nat} {K Q : St → Prop} (hT : TpM T b z) : ∀ (k p n : Nat), z - p ≤ k → p ≤ z → k < n → K (st T 12 0 48 (scz (isB b) z p : Nat)) → wp_X12_next_8 K Q n (st T 12 0 48 p) := by
  have h2 := hT.2.1
  intro k
  induction k with
  | zero =>
    intro p n hk hp hn q
    obtain ⟨n, rfl⟩ : ∃ n', n = n' + 1 := ⟨n - 1, by omega⟩
    rw [scz_stop (fun c => by omega)] at q
    have hT' : TpM (st T 12 0 48 p) b z := TpM_12 hT (by decide)
    unfold wp_X12_next_8
    rw [rs_eq, up_eq]
    refine sm_byteAt hT' rfl (by omega) ?_
    rw [if_neg (by omega)]
    refine ⟨in0, fun c => absurd c (by decide), fun _ => ?_⟩
    rw [rs_eq, up_eq]
    refine sm_byteAt hT' rfl (by omega) ?_
    rw [if_neg (by omega)]
    exact ⟨in0, fun _ => q, fun c => absurd c (by decide)⟩
  | succ k ih =>
    intro p n hk hp hn q
    obtain ⟨n, rfl⟩ : ∃ n', n = n' + 1 := ⟨n - 1, by omega⟩
    have hT' : TpM (st T 12 0 48 p) b z := TpM_12 hT (by decide)
    have bp := hT.2.2.2 p
    have go : p < z → isB b p → wp_X12_next_34 (fun σ => wp_X12_next_8 K Q n σ) K Q (st T 12 0 48 p) := by
      intro hl hB
      unfold wp_X12_next_34
      rw [rs_eq, up_eq, show ((p : Int) + 1) = ((p + 1 : Nat) : Int) by omega]
      intro s1 e1
      rw [sst] at e1
      rw [e1]
      refine ih (p + 1) n (by omega) (by omega) (by omega) ?_
      rw [← scz_go hl hB]
      exact q
    unfold wp_X12_next_8
    rw [rs_eq, up_eq]
    refine sm_byteAt hT' rfl (by omega) ?_
    by_cases c : p < z
    · rw [if_pos c]
      refine ⟨⟨by omega, by omega⟩, fun y => go c (Or.inl y), fun y => ?_⟩
      rw [rs_eq, up_eq]
      refine sm_byteAt hT' rfl (by omega) ?_
      rw [if_pos c]
      refine ⟨⟨by omega, by omega⟩, fun y2 => ?_, fun y2 => go c (Or.inr y2)⟩
      rw [scz_stop (fun w => w.2.elim y y2)] at q
      exact q
    · rw [if_neg c]
      rw [scz_stop (fun w => c w.1)] at q
      refine ⟨in0, fun c => absurd c (by decide), fun _ => ?_⟩
      rw [rs_eq, up_eq]
      refine sm_byteAt hT' rfl (by omega) ?_
      rw [if_neg c]
      exact ⟨in0, fun _ => q, fun c => absurd c (by decide)⟩
theorem n94_loop {T : St} {b : Nat → Int} {z : Nat} {K Q : St → Prop} (hT : TpM T b z) : ∀ (k p n : Nat), z - p ≤ k → p ≤ z → k < n → K (st T 12 0 49 (scz (isL b) z p : Nat)) → wp_X12_next_94 K Q n (st T 12 0 49 p) := by
  have h2 := hT.2.1
  intro k
  induction k with
  | zero =>
    intro p n hk hp hn q
    obtain ⟨n, rfl⟩ : ∃ n', n = n' + 1 := ⟨n - 1, by omega⟩
    rw [scz_stop (fun c => by omega)] at q
    have hT' : TpM (st T 12 0 49 p) b z := TpM_12 hT (by decide)
    unfold wp_X12_next_94
    rw [rs_eq, up_eq]
    refine sm_byteAt hT' rfl (by omega) ?_
    rw [if_neg (by omega)]
    exact wi_m in0 ⟨by decide, by decide⟩ ⟨by decide, by decide⟩ (fun c _ => absurd c (by decide)) (fun _ => ⟨in0, fun _ => q, fun c => absurd rfl c⟩)
  | succ k ih =>
    intro p n hk hp hn q
    obtain ⟨n, rfl⟩ : ∃ n', n = n' + 1 := ⟨n - 1, by omega⟩
    have hT' : TpM (st T 12 0 49 p) b z := TpM_12 hT (by decide)
    have bp := hT.2.2.2 p
    unfold wp_X12_next_94
    rw [rs_eq, up_eq]
    refine sm_byteAt hT' rfl (by omega) ?_
    by_cases c : p < z
    · rw [if_pos c]
      refine wi_m ⟨by omega, by omega⟩ ⟨by decide, by decide⟩ ⟨by decide, by decide⟩ (fun y1 y2 => ⟨in1, fun c => absurd c (by decide), fun _ s1 e1 => ?_⟩) (fun y => ⟨in0, fun _ => ?_, fun c => absurd rfl c⟩)
      · rw [rs_eq, up_eq, sst, show ((p : Int) + 1) = ((p + 1 : Nat) : Int) by omega] at e1
        rw [e1]
        refine ih (p + 1) n (by omega) (by omega) (by omega) ?_
        rw [← scz_go c (show isL b p from ⟨y1, y2⟩)]
        exact q
      · rw [scz_stop (fun w => y w.2)] at q
        exact q
    · rw [if_neg c]
      rw [scz_stop (fun w => c w.1)] at q
      exact wi_m in0 ⟨by decide, by decide⟩ ⟨by decide, by decide⟩ (fun c _ => absurd c (by decide)) (fun _ => ⟨in0, fun _ => q, fun c => absurd rfl c⟩)
/-- a number under way: its value and where it is -/
def nuW (T : St) (v o : Int) : St := st (st T 12 0 50 v) 12 0 49 o
theorem nuW_49 {T : St} {v o w : Int} : st (nuW T v o) 12 0 49 w = nuW T v w := sst
theorem nuW_50 {T : St} {v o w : Int} : st (nuW T v o) 12 0 50 w = nuW T w o := by
  unfold nuW
  funext k j
  by_cases h : k = 12 ∧ j = 0
  · obtain ⟨h1, h2⟩ := h
    subst h1 h2
    rw [rs_eq, rs_eq, rs_eq, rs_eq, rs_eq]
    funext i
    unfold up
    by_cases c : i = 50
    · rw [if_pos c, if_neg (by omega), if_pos c]
    · rw [if_neg c]
      by_cases d : i = 49
      · rw [if_pos d, if_pos d]
      · rw [if_neg d, if_neg d, if_neg c, if_neg c]
  · unfold st
    rw [if_neg h, if_neg h, if_neg h, if_neg h, if_neg h]
theorem nuW_v {T : St} {v o : Int} : nuW T v o 12 0 50 = v ∧ nuW T v o 12 0 49 = o ∧ (∀ i, ¬ i = 49 → ¬ i = 50 → nuW T v o 12 0 i = T 12 0 i) ∧ ∀ k, ¬ k = 12 → nuW T v o k = T k := by
  unfold nuW
  refine ⟨by rw [rs_eq, up_ne (by decide), rs_eq, up_eq], by rw [rs_eq, up_eq], fun i z1 z2 => by rw [rs_eq, up_ne z1, rs_eq, up_ne z2], fun k z => by rw [rs_ne z, rs_ne z]⟩
theorem n149_loop {T : St} {b : Nat → Int} {z fr : Nat} {K Q : St → Prop} (hT : TpM T b z) (h48 : T 12 0 48 = fr) : ∀ (k i n : Nat), z - (fr + i) ≤ k → fr + i ≤ z → k < n → (∀ m, fr + m = scz (isD b) z (fr + i) → K (nuW T (nmv b fr (min m 4)) (scz (isD b) z (fr + i) : Nat))) → wp_X12_next_149 K Q n (nuW T (nmv b fr (min i 4)) ((fr + i : Nat) : Int)) := by
  have h2 := hT.2.1
  have tw : ∀ v o : Int, TpM (nuW T v o) b z := fun v o => TpM_12 (TpM_12 hT (by decide)) (by decide)
  intro k
  induction k with
  | zero =>
    intro i n hk hp hn q
    obtain ⟨n, rfl⟩ : ∃ n', n = n' + 1 := ⟨n - 1, by omega⟩
    rw [scz_stop (fun c => by omega)] at q
    unfold wp_X12_next_149
    rw [nuW_v.2.1]
    refine sm_byteAt (tw _ _) rfl (by omega) ?_
    rw [if_neg (by omega)]
    exact wi_m in0 ⟨by decide, by decide⟩ ⟨by decide, by decide⟩ (fun c _ => absurd c (by decide)) (fun _ => ⟨in0, fun _ => q i rfl, fun c => absurd rfl c⟩)
  | succ k ih =>
    intro i n hk hp hn q
    obtain ⟨n, rfl⟩ : ∃ n', n = n' + 1 := ⟨n - 1, by omega⟩
    have bp := hT.2.2.2 (fr + i)
    unfold wp_X12_next_149
    rw [nuW_v.2.1]
    refine sm_byteAt (tw _ _) rfl (by omega) ?_
    by_cases c : fr + i < z
    · rw [if_pos c]
      refine wi_m ⟨by omega, by omega⟩ ⟨by decide, by decide⟩ ⟨by decide, by decide⟩ (fun y1 y2 => ⟨in1, fun c => absurd c (by decide), fun _ => ?_⟩) (fun y => ⟨in0, fun _ => ?_, fun c => absurd rfl c⟩)
      · have nx := ih (i + 1) n (by omega) (by omega) (by omega) (by
          rw [show fr + (i + 1) = fr + i + 1 by omega, ← scz_go c (show isD b (fr + i) from ⟨y1, y2⟩)]
          exact q)
        rw [nuW_v.2.1, nuW_v.2.2.1 48 (by decide) (by decide), h48, nuW_v.1]
        unfold wp_X12_next_203
        refine ⟨⟨by omega, by omega⟩, fun u s5 e5 => ?_, fun u => ?_⟩
        · rw [nuW_v.2.1, nuW_49] at e5
          rw [e5, show (((fr + i : Nat) : Int) + 1) = ((fr + (i + 1) : Nat) : Int) by omega, show min i 4 = min (i + 1) 4 by omega]
          exact nx
        · refine sm_byteAt (tw _ _) rfl (by omega) (fun s14 e14 s5 e5 => ?_)
          rw [if_pos c, nuW_50] at e14
          rw [e14, nuW_v.2.1, nuW_49] at e5
          rw [e5, show (((fr + i : Nat) : Int) + 1) = ((fr + (i + 1) : Nat) : Int) by omega]
          have ev : 10 * nmv b fr (min i 4) + b (fr + i) - 48 = nmv b fr (min (i + 1) 4) := by
            rw [show min i 4 = i by omega, show min (i + 1) 4 = i + 1 by omega]
            show _ = nmv b fr i * 10 + b (fr + i) - 48
            omega
          rw [ev]
          exact nx
      · rw [scz_stop (fun w => y w.2)] at q
        exact q i rfl
    · rw [if_neg c]
      rw [scz_stop (fun w => c w.1)] at q
      exact wi_m in0 ⟨by decide, by decide⟩ ⟨by decide, by decide⟩ (fun c _ => absurd c (by decide)) (fun _ => ⟨in0, fun _ => q i rfl, fun c => absurd rfl c⟩)
/-- the reference behind the next token -/
def NxM (T T' : St) (b : Nat → Int) (kd : Int) (fr to : Nat) : Prop := (∀ k, ¬ k = 12 → T' k = T k) ∧ (∀ i, ¬ i = 48 → ¬ i = 49 → ¬ i = 50 → ¬ i = 51 → T' 12 0 i = T 12 0 i) ∧ T' 12 0 51 = kd ∧ T' 12 0 48 = fr ∧ T' 12 0 49 = to ∧ (kd = 2 → T' 12 0 50 = nmv b fr (to - fr)) ∧ (kd = 3 → ¬ sgv (b fr) = -1)
theorem sm_next {T : St} {b : Nat → Int} {z p : Nat} {Q : St → Prop} (hT : TpM T b z) (h49 : T 12 0 49 = p) (hp : p ≤ z) (q : ∀ T', NxM T T' b (tkK b z p) (tkF b z p) (tkT b z p) → Q T') : wp_X12_next T Q := by
  have fb : p ≤ tkF b z p ∧ tkF b z p ≤ z := scz_b hp
  have h2 := hT.2.1
  unfold wp_X12_next
  rw [h49]
  intro s59 e59
  refine ⟨302, ?_⟩
  rw [e59]
  refine n8_loop hT 301 p 302 (by omega) hp (by omega) ?_
  have eF : scz (isB b) z p = tkF b z p := rfl
  rw [eF]
  unfold tkK tkT at q
  obtain ⟨f, ef⟩ : ∃ f, f = tkF b z p := ⟨_, rfl⟩
  rw [← ef] at q fb ⊢
  have bf := hT.2.2.2 f
  unfold wp_X12_next_47
  rw [rs_eq, up_eq]
  intro s25 e25
  have T25 : TpM s25 b z := by
    rw [e25]
    exact TpM_12 (TpM_12 hT (by decide)) (by decide)
  have r48 : s25 12 0 48 = f := by rw [e25, rs_eq, up_ne (by decide), rs_eq, up_eq]
  have r49 : s25 12 0 49 = f := by rw [e25, rs_eq, up_eq]
  have rk : ∀ k, ¬ k = 12 → s25 k = T k := fun k z => by rw [e25, rs_ne z, rs_ne z]
  have ri : ∀ i, ¬ i = 48 → ¬ i = 49 → s25 12 0 i = T 12 0 i := fun i z1 z2 => by rw [e25, rs_eq, up_ne z2, rs_eq, up_ne z1]
  have r44 : s25 12 0 44 = z := T25.1
  have self49 : st s25 12 0 49 f = s25 := by rw [← r49]; exact st_self
  unfold kdF toF at q
  rw [r48]
  refine sm_byteAt T25 rfl (by omega) ?_
  rw [r48, r44]
  refine ⟨⟨by omega, by omega⟩, ⟨by omega, by omega⟩, fun c0 => ?_, fun c0 s48 e48 => ?_⟩
  · have n0 : ¬ z ≤ f := by omega
    rw [cif_n n0, cif_n n0] at q
    rw [if_pos (by omega)]
    refine wi_m ⟨by omega, by omega⟩ ⟨by decide, by decide⟩ ⟨by decide, by decide⟩ (fun c1 c2 => ⟨in1, fun c => absurd c (by decide), fun _ => ⟨302, ?_⟩⟩) (fun c => ⟨in0, fun _ => ?_, fun c => absurd rfl c⟩)
    · have l1 : isL b f := ⟨c1, c2⟩
      rw [cif_p l1, cif_p l1] at q
      have lp := n94_loop (K := wp_X12_next_125 Q) (Q := Q) T25 301 f 302 (by omega) (by omega) (by omega) (by
        unfold wp_X12_next_125
        intro s17 e17
        refine q s17 ⟨fun k z => by rw [e17, rs_ne z, rs_ne z, rk k z], fun i z1 z2 z3 z4 => by rw [e17, rs_eq, up_ne z4, rs_eq, up_ne z2, ri i z1 z2], by rw [e17, rs_eq, up_eq], by rw [e17, rs_eq, up_ne (by decide), rs_eq, up_ne (by decide), r48], by rw [e17, rs_eq, up_ne (by decide), rs_eq, up_eq], fun c => absurd c (by decide), fun c => absurd c (by decide)⟩)
      rw [self49] at lp
      exact lp
    · have l0 : ¬ isL b f := c
      rw [cif_n l0, cif_n l0] at q
      refine wi_m ⟨by omega, by omega⟩ ⟨by decide, by decide⟩ ⟨by decide, by decide⟩ (fun c1 c2 => ⟨in1, fun c => absurd c (by decide), fun _ s45 e45 => ⟨302, ?_⟩⟩) (fun c => ⟨in0, fun _ s36 e36 => ?_, fun c => absurd rfl c⟩)
      · have d1 : isD b f := ⟨c1, c2⟩
        rw [cif_p d1, cif_p d1] at q
        have sb := scz_b (P := isD b) (z := z) (p := f) (by omega)
        have e45b : s45 = nuW s25 (nmv b f (min 0 4)) ((f + 0 : Nat) : Int) := by
          rw [e45]
          unfold nuW
          rw [show ((f + 0 : Nat) : Int) = (f : Int) by omega]
          show st s25 12 0 50 0 = st (st s25 12 0 50 0) 12 0 49 f
          have e5 : st s25 12 0 50 0 12 0 49 = f := by rw [rs_eq, up_ne (by decide), r49]
          rw [← e5, st_self]
        rw [e45b]
        refine n149_loop T25 r48 301 0 302 (by omega) (by omega) (by omega) (fun m hm => ?_)
        rw [show f + 0 = f by omega] at hm ⊢
        unfold wp_X12_next_216 wp_X12_next_235
        rw [nuW_v.2.1, nuW_v.2.2.1 48 (by decide) (by decide), r48]
        refine ⟨⟨by omega, by omega⟩, fun y s2 e2 => ?_, fun y s2 e2 => ?_⟩
        · have y4 : scz (isD b) z f ≤ f + 4 := by omega
          rw [cif_p y4] at q
          refine q s2 ⟨fun k z => by rw [e2, rs_ne z, nuW_v.2.2.2 k z, rk k z], fun i z1 z2 z3 z4 => by rw [e2, rs_eq, up_ne z4, nuW_v.2.2.1 i z2 z3, ri i z1 z2], by rw [e2, rs_eq, up_eq], by rw [e2, rs_eq, up_ne (by decide), nuW_v.2.2.1 48 (by decide) (by decide), r48], by rw [e2, rs_eq, up_ne (by decide), nuW_v.2.1], fun _ => ?_, fun c => absurd c (by decide)⟩
          rw [e2, rs_eq, up_ne (by decide), nuW_v.1, show min m 4 = scz (isD b) z f - f by omega]
        · have y4 : ¬ scz (isD b) z f ≤ f + 4 := by omega
          rw [cif_n y4] at q
          exact q s2 ⟨fun k z => by rw [e2, rs_ne z, nuW_v.2.2.2 k z, rk k z], fun i z1 z2 z3 z4 => by rw [e2, rs_eq, up_ne z4, nuW_v.2.2.1 i z2 z3, ri i z1 z2], by rw [e2, rs_eq, up_eq], by rw [e2, rs_eq, up_ne (by decide), nuW_v.2.2.1 48 (by decide) (by decide), r48], by rw [e2, rs_eq, up_ne (by decide), nuW_v.2.1], fun c => absurd c (by decide), fun c => absurd c (by decide)⟩
      · have d0 : ¬ isD b f := c
        rw [cif_n d0, cif_n d0] at q
        rw [r49] at e36
        have fin : ∀ (kd : Int) (s2 : St), s2 = st s36 12 0 51 kd → kd = cif (sgv (b f) = -1) 4 3 → Q s2 := by
          intro kd s2 e2 hk
          rw [← hk] at q
          refine q s2 ⟨fun k z => by rw [e2, rs_ne z, e36, rs_ne z, rk k z], fun i z1 z2 z3 z4 => by rw [e2, rs_eq, up_ne z4, e36, rs_eq, up_ne z2, ri i z1 z2], by rw [e2, rs_eq, up_eq], by rw [e2, rs_eq, up_ne (by decide), e36, rs_eq, up_ne (by decide), r48], by rw [e2, rs_eq, up_ne (by decide), e36, rs_eq, up_eq]; omega, fun c => ?_, fun c => ?_⟩
          · rw [hk] at c
            by_cases g : sgv (b f) = -1
            · rw [cif_p g] at c
              exact absurd c (by decide)
            · rw [cif_n g] at c
              exact absurd c (by decide)
          · rw [hk] at c
            intro g
            rw [cif_p g] at c
            exact absurd c (by decide)
        have y3 : ∀ s2 : St, s2 = st s36 12 0 51 3 → ¬ sgv (b f) = -1 → Q s2 := fun s2 e2 g => fin 3 s2 e2 (by rw [cif_n g])
        unfold wp_X12_next_276 wp_X12_next_281
        refine ⟨⟨by omega, by omega⟩, fun y s2 e2 => y3 s2 e2 (by rw [y]; decide), fun y => ⟨⟨by omega, by omega⟩, fun y' s2 e2 => y3 s2 e2 (by rw [y']; decide), fun y' => ⟨⟨by omega, by omega⟩, fun y'' s2 e2 => y3 s2 e2 (by rw [y'']; decide), fun y'' => ⟨⟨by omega, by omega⟩, fun w s2 e2 => fin 4 s2 e2 ?_, fun w s2 e2 => y3 s2 e2 (by rw [w]; decide)⟩⟩⟩⟩
        rw [cif_p]
        unfold sgv
        rw [if_neg y', if_neg y'', if_neg w, if_neg y]
  · rw [cif_p (by omega), cif_p (by omega)] at q
    exact q s48 ⟨fun k z => by rw [e48, rs_ne z, rk k z], fun i z1 z2 z3 z4 => by rw [e48, rs_eq, up_ne z4, ri i z1 z2], by rw [e48, rs_eq, up_eq], by rw [e48, rs_eq, up_ne (by decide), r48], by rw [e48, rs_eq, up_ne (by decide), r49], fun c => absurd c (by decide), fun c => absurd c (by decide)⟩
