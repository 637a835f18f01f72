/-! rows of cruises: the reference, and the calls -/
theorem sm_isPlace {σ : St} {r : Nat} {p : Int} {Q : Int → St → Prop} (hr : r < 4) (hl : -1 ≤ σ 152 0 r ∧ σ 152 0 r ≤ 40) (hp : inR p) (q1 : 0 ≤ p → p < σ 152 0 r → Q 1 σ) (q0 : ¬ (0 ≤ p ∧ p < σ 152 0 r) → Q 0 σ) : wp_X12_isPlace σ r p Q := by
  unfold wp_X12_isPlace
  refine wi_m ⟨by omega, by omega⟩ in0 ⟨by decide, by decide⟩ (fun _ _ => ⟨in1, fun c => absurd c (by decide), fun _ => ?_⟩) (fun a => absurd (by omega) a)
  rw [Int.toNat_natCast]
  exact ⟨by omega, by omega, ⟨by omega, by omega⟩, fun c => q0 (by omega), fun c => ⟨by omega, by omega, wi_m hp in0 ⟨by omega, by omega⟩ (fun a b => ⟨in1, fun c => absurd c (by decide), fun _ => q1 a (by omega)⟩) (fun a => ⟨in0, fun _ => q0 (by omega), fun c => absurd rfl c⟩)⟩⟩
/-- what was near, kept in two of the reference's numbers -/
def nr (σ : St) (s m : Int) : St := st (st σ 12 0 101 s) 12 0 102 m
theorem nr_ne {σ : St} {s m : Int} {k : Nat} (h : ¬ k = 12) : nr σ s m k = σ k := by
  unfold nr
  rw [rs_ne h, rs_ne h]
theorem nr_1 {σ : St} {s m : Int} : nr σ s m 12 0 101 = s := by
  unfold nr
  rw [rs_eq, up_ne (by decide), rs_eq, up_eq]
theorem nr_2 {σ : St} {s m : Int} : nr σ s m 12 0 102 = m := by
  unfold nr
  rw [rs_eq, up_eq]
theorem nr_sta {σ : St} {s m : Int} : nr σ s m = sta σ 12 0 (up (up (σ 12 0) 101 s) 102 m) := by
  unfold nr
  rw [st_sta (σ := σ), st_stae]
theorem nr_nr {σ : St} {s m s' m' : Int} : nr (nr σ s m) s' m' = nr σ s' m' := by
  rw [nr_sta (σ := nr σ s m), nr_sta (σ := σ) (s := s), sta_sta, ra_eq, nr_sta (σ := σ)]
  congr 1
  funext i
  unfold up
  by_cases c : i = 102
  · simp only [if_pos c]
  · by_cases d : i = 101
    · simp only [if_neg c, if_pos d]
    · simp only [if_neg c, if_neg d]
theorem near_end {σ : St} {r : Nat} {p s m : Int} {Q : St → Prop} (hr : r < 4) (hl : -1 ≤ σ 152 0 r ∧ σ 152 0 r ≤ 40) (hp : inR p) (q1 : 0 ≤ p → p < σ 152 0 r → Q (nr σ (s + σ 154 0 (40 * r + p.toNat)) (m + 1))) (q0 : ¬ (0 ≤ p ∧ p < σ 152 0 r) → Q (nr σ s m)) : wp_X12_near_37 Q (nr σ s m) r p := by
  have r152 : nr σ s m 152 = σ 152 := nr_ne (by decide)
  have r154 : nr σ s m 154 = σ 154 := nr_ne (by decide)
  unfold wp_X12_near_37
  refine sm_isPlace hr (by rw [r152]; exact hl) hp (fun a b => ⟨in1, fun _ => ⟨by rw [r152] at b; omega, by rw [r152] at b; omega, fun s1 e1 s2 e2 => ?_⟩, fun c => absurd c (by decide)⟩) (fun a => ⟨in0, fun c => absurd rfl c, fun _ => q0 (by rw [r152] at a; exact a)⟩)
  rw [r152] at b
  have q := q1 a b
  rw [nr_1, r154, show Int.toNat (40 * (r : Int) + p) = 40 * r + p.toNat by omega] at e1
  have e3 : s1 12 0 102 = m := by rw [e1, rs_eq, up_ne (by decide), nr_2]
  rw [e3] at e2
  have e4 : s2 = nr (nr σ s m) (s + σ 154 0 (40 * r + p.toNat)) (m + 1) := by rw [e2, e1]; rfl
  rw [e4, nr_nr]
  exact q
theorem neard_loop {σ : St} {r : Nat} {s m : Int} {Q : St → Prop} (hr : r < 4) (hl : -1 ≤ σ 152 0 r ∧ σ 152 0 r ≤ 40) (hh : ∀ i, 0 ≤ σ 155 0 i ∧ σ 155 0 i ≤ 1) : ∀ (k n : Nat), (k : Int) ≤ σ 152 0 r → k < n → (dn (fun q => σ 155 0 (40 * r + q)) k = -1 → Q (nr σ s m)) → (¬ dn (fun q => σ 155 0 (40 * r + q)) k = -1 → Q (nr σ (s + σ 154 0 (40 * r + (dn (fun q => σ 155 0 (40 * r + q)) k).toNat)) (m + 1))) → wp_X12_near_3 (wp_X12_near_37 Q) Q n (nr σ s m) r (-1) ((k : Int) - 1) := by
  have r152 : nr σ s m 152 = σ 152 := nr_ne (by decide)
  have r155 : nr σ s m 155 = σ 155 := nr_ne (by decide)
  intro k
  induction k with
  | zero =>
    intro n hk hn q0 q1
    obtain ⟨n, rfl⟩ : ∃ n', n = n' + 1 := ⟨n - 1, by omega⟩
    unfold wp_X12_near_3
    refine sm_isPlace hr (by rw [r152]; exact hl) ⟨by omega, by omega⟩ (fun a b => absurd a (by omega)) (fun a => ⟨in0, fun _ => near_end hr hl ⟨by omega, by omega⟩ (fun a b => absurd a (by omega)) (fun _ => q0 rfl), fun c => absurd rfl c⟩)
  | succ k ih =>
    intro n hk hn q0 q1
    obtain ⟨n, rfl⟩ : ∃ n', n = n' + 1 := ⟨n - 1, by omega⟩
    have hb := hh (40 * r + k)
    unfold dn at q0 q1
    unfold wp_X12_near_3
    rw [show (((k + 1 : Nat) : Int) - 1) = (k : Int) by omega]
    refine sm_isPlace hr (by rw [r152]; exact hl) ⟨by omega, by omega⟩ (fun a b => ⟨in1, fun c => absurd c (by decide), fun _ => ?_⟩) (fun a => absurd (by rw [r152]; omega) a)
    rw [r155, show Int.toNat (40 * (r : Int) + (k : Int)) = 40 * r + k by omega]
    refine ⟨by omega, by omega, ⟨by omega, by omega⟩, fun c => ?_, fun c v9 e9 => ?_⟩
    · rw [if_pos c] at q1
      refine near_end hr hl ⟨by omega, by omega⟩ (fun _ _ => ?_) (fun z => absurd (by omega) z)
      exact q1 (by omega)
    · rw [if_neg c] at q0 q1
      rw [show v9 = (k : Int) - 1 by omega]
      exact ih n (by omega) (by omega) q0 q1
theorem nearu_loop {σ : St} {r : Nat} {s m : Int} {Q : St → Prop} (hr : r < 4) (hl : -1 ≤ σ 152 0 r ∧ σ 152 0 r ≤ 40) (hh : ∀ i, 0 ≤ σ 155 0 i ∧ σ 155 0 i ≤ 1) : ∀ (k p n : Nat), (p : Int) + k = σ 152 0 r → k < n → (un (fun q => σ 155 0 (40 * r + q)) p k = -1 → Q (nr σ s m)) → (¬ un (fun q => σ 155 0 (40 * r + q)) p k = -1 → Q (nr σ (s + σ 154 0 (40 * r + (un (fun q => σ 155 0 (40 * r + q)) p k).toNat)) (m + 1))) → wp_X12_near_3 (wp_X12_near_37 Q) Q n (nr σ s m) r 1 p := by
  have r152 : nr σ s m 152 = σ 152 := nr_ne (by decide)
  have r155 : nr σ s m 155 = σ 155 := nr_ne (by decide)
  intro k
  induction k with
  | zero =>
    intro p n hk hn q0 q1
    obtain ⟨n, rfl⟩ : ∃ n', n = n' + 1 := ⟨n - 1, by omega⟩
    unfold wp_X12_near_3
    refine sm_isPlace hr (by rw [r152]; exact hl) ⟨by omega, by omega⟩ (fun a b => absurd b (by rw [r152]; omega)) (fun a => ⟨in0, fun _ => near_end hr hl ⟨by omega, by omega⟩ (fun a b => absurd b (by omega)) (fun _ => q0 rfl), fun c => absurd rfl c⟩)
  | succ k ih =>
    intro p n hk hn q0 q1
    obtain ⟨n, rfl⟩ : ∃ n', n = n' + 1 := ⟨n - 1, by omega⟩
    have hb := hh (40 * r + p)
    unfold un at q0 q1
    unfold wp_X12_near_3
    refine sm_isPlace hr (by rw [r152]; exact hl) ⟨by omega, by omega⟩ (fun a b => ⟨in1, fun c => absurd c (by decide), fun _ => ?_⟩) (fun a => absurd (by rw [r152]; omega) a)
    rw [r155, show Int.toNat (40 * (r : Int) + (p : Int)) = 40 * r + p by omega]
    refine ⟨by omega, by omega, ⟨by omega, by omega⟩, fun c => ?_, fun c v9 e9 => ?_⟩
    · rw [if_pos c] at q1
      refine near_end hr hl ⟨by omega, by omega⟩ (fun _ _ => ?_) (fun z => absurd (by omega) z)
      exact q1 (by omega)
    · rw [if_neg c] at q0 q1
      rw [show v9 = ((p + 1 : Nat) : Int) by omega]
      exact ih (p + 1) n (by omega) (by omega) q0 q1
theorem sm_told {σ : St} {r p : Nat} {Q : Int → St → Prop} (hr : r < 4) (hl : -1 ≤ σ 152 0 r ∧ σ 152 0 r ≤ 40) (hp : (p : Int) < σ 152 0 r) (hh : ∀ i, 0 ≤ σ 155 0 i ∧ σ 155 0 i ≤ 1) (he : ∀ i, -2000000 ≤ σ 154 0 i ∧ σ 154 0 i ≤ 2000000)
    (q : ∀ s m, 0 ≤ m → m ≤ 2 → (m = 0 ↔ un (fun q => σ 155 0 (40 * r + q)) 0 (σ 152 0 r).toNat = -1) → Q (egv (fun q => σ 154 0 (40 * r + q)) (fun q => σ 155 0 (40 * r + q)) p (σ 152 0 r).toNat) (nr σ s m)) : wp_X12_told σ r p Q := by
  have ni := none_iff (h := fun q => σ 155 0 (40 * r + q)) (p := p) (l := (σ 152 0 r).toNat) (by omega)
  intro s1 e1 s2 e2
  have e3 : s2 = nr σ 0 0 := by rw [e2, e1]; rfl
  rw [e3]
  have r155 : ∀ s m, nr σ s m 155 = σ 155 := fun s m => nr_ne (by decide)
  have hb := hh (40 * r + p)
  have b1 := dn_b (fun q => σ 155 0 (40 * r + q)) (p + 1)
  have b2 := un_b (fun q => σ 155 0 (40 * r + q)) p ((σ 152 0 r).toNat - p)
  have fin : ∀ s m : Int, (m = 0 ∨ m = 1 ∨ m = 2) → (-4000000 ≤ s ∧ s ≤ 4000000) → (m = 0 → Q 0 (nr σ s m)) → (¬ m = 0 → Q (s.tdiv m) (nr σ s m)) → wp_X12_told_38 Q (nr σ s m) := by
    intro s m hm hs q0 q1
    unfold wp_X12_told_38
    rw [nr_1, nr_2]
    exact ⟨⟨by omega, by omega⟩, fun c => ⟨⟨by omega, by omega⟩, ⟨by omega, by omega⟩, c, by omega, q1 c⟩, fun c => q0 c⟩
  have td1 : ∀ x : Int, x.tdiv 1 = x := fun x => Int.tdiv_one x
  have idx : Int.toNat (40 * (r : Int) + (p : Int)) = 40 * r + p := by omega
  unfold egv at q
  by_cases c : σ 155 0 (40 * r + p) = 0
  · have d1 : dn (fun q => σ 155 0 (40 * r + q)) (p + 1) = (p : Int) := by
      show (if σ 155 0 (40 * r + p) = 0 then (p : Int) else _) = _
      rw [if_pos c]
    have d2 : un (fun q => σ 155 0 (40 * r + q)) p ((σ 152 0 r).toNat - p) = (p : Int) := by
      rw [show (σ 152 0 r).toNat - p = ((σ 152 0 r).toNat - p - 1) + 1 by omega]
      show (if σ 155 0 (40 * r + p) = 0 then (p : Int) else _) = _
      rw [if_pos c]
    rw [d1, d2] at ni
    rw [d1, d2, if_neg (by omega), if_neg (by omega), Int.toNat_natCast] at q
    have h1 := neard_loop (σ := σ) (r := r) (s := 0) (m := 0) (Q := fun σ_9 => 0 ≤ ((40 * (r : Int)) + p) ∧ ((40 * (r : Int)) + p) < 160 ∧ inR (σ_9 155 0 (Int.toNat ((40 * (r : Int)) + p))) ∧ ((σ_9 155 0 (Int.toNat ((40 * (r : Int)) + p))) = 0 → wp_X12_told_38 Q σ_9) ∧ (¬ (σ_9 155 0 (Int.toNat ((40 * (r : Int)) + p))) = 0 → wp_X12_near σ_9 r p 1 (fun σ_13 => wp_X12_told_38 Q σ_13))) hr hl hh (p + 1) 42 (by omega) (by omega) (fun z => absurd z (by omega)) (fun _ => ?_)
    · rw [show (((p + 1 : Nat) : Int) - 1) = (p : Int) by omega] at h1
      exact ⟨42, h1⟩
    · rw [idx, r155, d1, Int.toNat_natCast]
      have hx := he (40 * r + p)
      refine ⟨by omega, by omega, ⟨by omega, by omega⟩, fun _ => fin _ _ (by omega) (by omega) (fun z => absurd z (by omega)) (fun _ => ?_), fun z => absurd c z⟩
      have qq := q (0 + σ 154 0 (40 * r + p)) (0 + 1) (by omega) (by omega) (by omega)
      rw [show (0 : Int) + 1 = 1 from rfl, td1]
      rw [show σ 154 0 (40 * r + p) + σ 154 0 (40 * r + p) = σ 154 0 (40 * r + p) * 2 by omega, Int.mul_tdiv_cancel _ (by decide)] at qq
      rw [show (0 : Int) + σ 154 0 (40 * r + p) = σ 154 0 (40 * r + p) by omega] at qq ⊢
      exact qq
  · have up2 : ∀ s m : Int, (s = 0 ∧ m = 0 ∧ dn (fun q => σ 155 0 (40 * r + q)) (p + 1) = -1) ∨ (s = σ 154 0 (40 * r + (dn (fun q => σ 155 0 (40 * r + q)) (p + 1)).toNat) ∧ m = 1 ∧ ¬ dn (fun q => σ 155 0 (40 * r + q)) (p + 1) = -1) → wp_X12_near (nr σ s m) r p 1 (fun σ_13 => wp_X12_told_38 Q σ_13) := by
      intro s m hs
      have hx1 := he (40 * r + (dn (fun q => σ 155 0 (40 * r + q)) (p + 1)).toNat)
      have hx2 := he (40 * r + (un (fun q => σ 155 0 (40 * r + q)) p ((σ 152 0 r).toNat - p)).toNat)
      refine ⟨42, nearu_loop hr hl hh ((σ 152 0 r).toNat - p) p 42 (by omega) (by omega) (fun z => ?_) (fun z => ?_)⟩
      · rw [z] at ni q
        rcases hs with ⟨hs, hm, hd⟩ | ⟨hs, hm, hd⟩
        · rw [hd] at ni q
          rw [if_pos rfl, if_pos rfl] at q
          exact fin _ _ (by omega) (by omega) (fun y => q _ _ (by omega) (by omega) ⟨fun _ => ni.mp ⟨rfl, rfl⟩, fun _ => y⟩) (fun y => absurd hm y)
        · rw [if_neg hd, if_pos rfl] at q
          refine fin _ _ (by omega) (by omega) (fun y => absurd y (by omega)) (fun y => ?_)
          have qq := q s m (by omega) (by omega) ⟨fun y => absurd y (by omega), fun y => absurd (ni.mpr y).1 hd⟩
          rw [hm] at qq ⊢
          rw [td1, hs]
          rw [hs] at qq
          exact qq
      · rw [if_neg z] at q
        rcases hs with ⟨hs, hm, hd⟩ | ⟨hs, hm, hd⟩
        · rw [if_pos hd] at q
          refine fin _ _ (by omega) (by omega) (fun y => absurd y (by omega)) (fun y => ?_)
          have qq := q (s + σ 154 0 (40 * r + (un (fun q => σ 155 0 (40 * r + q)) p ((σ 152 0 r).toNat - p)).toNat)) (m + 1) (by omega) (by omega) ⟨fun y => absurd y (by omega), fun y => absurd (ni.mpr y).2 z⟩
          rw [hm, hs] at qq ⊢
          rw [show (0 : Int) + 1 = 1 from rfl] at qq ⊢
          rw [td1, show (0 : Int) + σ 154 0 (40 * r + (un (fun q => σ 155 0 (40 * r + q)) p ((σ 152 0 r).toNat - p)).toNat) = σ 154 0 (40 * r + (un (fun q => σ 155 0 (40 * r + q)) p ((σ 152 0 r).toNat - p)).toNat) by omega]
          rw [show (0 : Int) + σ 154 0 (40 * r + (un (fun q => σ 155 0 (40 * r + q)) p ((σ 152 0 r).toNat - p)).toNat) = σ 154 0 (40 * r + (un (fun q => σ 155 0 (40 * r + q)) p ((σ 152 0 r).toNat - p)).toNat) by omega] at qq
          exact qq
        · rw [if_neg hd, if_neg z] at q
          refine fin _ _ (by omega) (by omega) (fun y => absurd y (by omega)) (fun y => ?_)
          have qq := q (s + σ 154 0 (40 * r + (un (fun q => σ 155 0 (40 * r + q)) p ((σ 152 0 r).toNat - p)).toNat)) (m + 1) (by omega) (by omega) ⟨fun y => absurd y (by omega), fun y => absurd (ni.mpr y).2 z⟩
          rw [hm, hs] at qq ⊢
          rw [show (1 : Int) + 1 = 2 from rfl] at qq ⊢
          exact qq
    have h1 := neard_loop (σ := σ) (r := r) (s := 0) (m := 0) (Q := fun σ_9 => 0 ≤ ((40 * (r : Int)) + p) ∧ ((40 * (r : Int)) + p) < 160 ∧ inR (σ_9 155 0 (Int.toNat ((40 * (r : Int)) + p))) ∧ ((σ_9 155 0 (Int.toNat ((40 * (r : Int)) + p))) = 0 → wp_X12_told_38 Q σ_9) ∧ (¬ (σ_9 155 0 (Int.toNat ((40 * (r : Int)) + p))) = 0 → wp_X12_near σ_9 r p 1 (fun σ_13 => wp_X12_told_38 Q σ_13))) hr hl hh (p + 1) 42 (by omega) (by omega) (fun z => ?_) (fun z => ?_)
    · rw [show (((p + 1 : Nat) : Int) - 1) = (p : Int) by omega] at h1
      exact ⟨42, h1⟩
    · rw [idx, r155]
      exact ⟨by omega, by omega, ⟨by omega, by omega⟩, fun y => absurd y c, fun _ => up2 0 0 (Or.inl ⟨rfl, rfl, z⟩)⟩
    · rw [idx, r155, show (0 : Int) + σ 154 0 (40 * r + (dn (fun q => σ 155 0 (40 * r + q)) (p + 1)).toNat) = σ 154 0 (40 * r + (dn (fun q => σ 155 0 (40 * r + q)) (p + 1)).toNat) by omega, show (0 : Int) + 1 = 1 from rfl]
      exact ⟨by omega, by omega, ⟨by omega, by omega⟩, fun y => absurd y c, fun _ => up2 _ 1 (Or.inr ⟨rfl, rfl, z⟩)⟩
