/-! a new log, on both sides: the relation is kept -/
theorem ftv_b {a w : Int} (ha : 0 ≤ a) (hw : 1 ≤ w) : -1 ≤ ftv a w ∧ ftv a w < w := by
  have em : Int.tmod a (w + 3) = a % (w + 3) := Int.tmod_eq_emod_of_nonneg ha
  have l0 := Int.emod_nonneg a (show w + 3 ≠ 0 by omega)
  unfold ftv
  rw [em]
  split <;> omega
theorem RelL_new {S V X W : St} {l ce : Nat} {so un wi br ft td s0 s1 kd : Int} (h : RelL S V) (hl : S 11 0 4 = l) (h3 : l < 300) (eX : X = newX S l ce so un wi br ft td s0 s1 kd) (eW : W = newM V l ce so un wi br ft td s0 s1 kd) (hce : ce ≤ 63) (hso : 0 ≤ so ∧ so ≤ 3) (hun : 2 ≤ un ∧ un ≤ 6) (hw : 1 ≤ wi ∧ wi ≤ 32) (hbr : 0 ≤ br ∧ br ≤ 9) (hft : -1 ≤ ft ∧ ft < wi) (htd : 0 ≤ td ∧ td ≤ 3999) (hs0 : 0 ≤ s0 ∧ s0 < 65537) (hs1 : 0 ≤ s1 ∧ s1 < 65537) (hkd : 0 ≤ kd ∧ kd ≤ 4010) : RelL X W := by
  obtain ⟨hA, hB, hV, hY, hK⟩ := h
  obtain ⟨w95, w96, w97, w98, w99, w100, w101, w103, w102, w104, w105, w107, w108, w12⟩ := newM_r eW
  have w106 := newM_106 eW
  have x4 := newX_4 (σ := S) (l := l) (ce := ce) (so := so) (un := un) (wi := wi) (br := br) (ft := ft) (td := td) (s0 := s0) (s1 := s1) (kd := kd) rfl
  have x35 := newX_35 (σ := S) (l := l) (ce := ce) (so := so) (un := un) (wi := wi) (br := br) (ft := ft) (td := td) (s0 := s0) (s1 := s1) (kd := kd)
  have x38 := newX_38 (σ := S) (l := l) (ce := ce) (so := so) (un := un) (wi := wi) (br := br) (ft := ft) (td := td) (s0 := s0) (s1 := s1) (kd := kd)
  have x11 := newX_11 (σ := S) (l := l) (ce := ce) (so := so) (un := un) (wi := wi) (br := br) (ft := ft) (td := td) (s0 := s0) (s1 := s1) (kd := kd)
  have x50 := newX_50 (σ := S) (l := l) (ce := ce) (so := so) (un := un) (wi := wi) (br := br) (ft := ft) (td := td) (s0 := s0) (s1 := s1) (kd := kd)
  have xr := fun i k hi hk => newX_r (σ := S) (l := l) (ce := ce) (i := i) (k := k) (so := so) (un := un) (wi := wi) (br := br) (ft := ft) (td := td) (s0 := s0) (s1 := s1) (kd := kd) hi hk
  rw [← eX] at x4 x35 x38 x11 x50 xr
  have e17 : W 12 0 17 = V 12 0 17 + 1 := by
    rw [w12, up_eq, hV.1, hl]
  have e11 : X 11 0 4 = S 11 0 4 + 1 := by
    rw [x11.1, up_eq, hl]
  have el : (S 11 0 4).toNat = l := by omega
  have r38 : ∀ k, k < 5 → W 106 0 (5 * l + k) = reg5 ce so un wi td k := by
    intro k hk
    rw [w106]
    rcases (show k = 0 ∨ k = 1 ∨ k = 2 ∨ k = 3 ∨ k = 4 by omega) with rfl | rfl | rfl | rfl | rfl
    · rw [up_ne (by omega), up_ne (by omega), up_ne (by omega), up_ne (by omega)]
      exact up_eq
    · rw [up_ne (by omega), up_ne (by omega), up_ne (by omega), up_eq]
      rfl
    · rw [up_ne (by omega), up_ne (by omega), up_eq]
      rfl
    · rw [up_ne (by omega), up_eq]
      rfl
    · rw [up_eq]
      rfl
  have rb : ∀ k, k < 5 → 0 ≤ reg5 ce so un wi td k ∧ reg5 ce so un wi td k ≤ 65535 := by
    intro k hk
    rcases (show k = 0 ∨ k = 1 ∨ k = 2 ∨ k = 3 ∨ k = 4 by omega) with rfl | rfl | rfl | rfl | rfl
    · show 0 ≤ (ce : Int) ∧ (ce : Int) ≤ 65535; omega
    · show 0 ≤ so ∧ so ≤ 65535; omega
    · show 0 ≤ un ∧ un ≤ 65535; omega
    · show 0 ≤ wi ∧ wi ≤ 65535; omega
    · show 0 ≤ td ∧ td ≤ 65535; omega
  obtain ⟨c5a, c5b⟩ := clr5_v (f := V 104 0) (l := l)
  refine ⟨?_, ?_, ?_, ?_, by rw [w105]; exact I_kf_up hK hkd⟩
  · rw [e11, w96, w97, w98, w99, w100, w101, w107, w108]
    refine I_logA_push hA hl (fun i hi => ⟨xr i 4 (by omega) (by omega), xr i 38 (by omega) (by omega)⟩) (fun k hk => ?_) ⟨?_, fun k hk => ?_, ⟨hs0.1, hs0.2, hs1.1, hs1.2⟩, by omega⟩
    · rw [w106, up_ne (by omega), up_ne (by omega), up_ne (by omega), up_ne (by omega), up_ne (by omega)]
    · exact ⟨x4.1, x4.2.1, x4.2.2.1, x4.2.2.2.1, x4.2.2.2.2.1, x4.2.2.2.2.2.2.1, x4.2.2.2.2.2.2.2.2.2.2.1, x4.2.2.2.2.2.2.2.2.2.2.2⟩
    · show X 38 l k = W 106 0 (5 * l + k) ∧ _
      rw [r38 k hk, x38 k hk]
      exact ⟨rfl, rb k hk⟩
  · rw [e11, w95, w103, w102]
    have h104 : ∀ q, q < 5 → W 104 0 (5 * l + q) = if q = 0 then td else -1 := by
      intro q hq
      rw [w104]
      by_cases e : q = 0
      · rw [e, if_pos rfl, up_eq]
      · rw [if_neg e, up_ne (by omega)]
        exact c5b q hq
    refine I_logB_push hB hl (fun i hi => ⟨xr i 4 (by omega) (by omega), xr i 35 (by omega) (by omega), xr i 36 (by omega) (by omega), xr i 37 (by omega) (by omega)⟩) (fun k hk => ⟨?_, ?_⟩) ?_
    · rw [w104, up_ne (by omega), c5a k hk]
    · rw [w105, up_ne (by omega)]
    · refine ⟨⟨x4.2.2.2.2.2.1, x4.2.2.2.2.2.2.2.1, x4.2.2.2.2.2.2.2.2.1⟩, ⟨⟨x35.1, ?_, ?_, ?_⟩, Or.inl ⟨rfl, x4.2.2.2.2.2.2.2.2.2.1, ?_, ?_, ?_, ?_⟩⟩, by omega, fun k hk => ?_⟩
      · show X 36 l 0 = W 104 0 (5 * l + 0)
        rw [h104 0 (by decide), x35.2.1]
        rfl
      · show X 37 l 0 = W 105 0 (5 * l + 0)
        rw [w105, up_eq, x35.2.2]
      · show 0 ≤ W 104 0 (5 * l + 0)
        rw [h104 0 (by decide)]
        exact htd.1
      · exact h104 1 (by decide)
      · exact h104 2 (by decide)
      · exact h104 3 (by decide)
      · exact h104 4 (by decide)
      · have b5 := I_kf_up (i := 5 * l + 0) hK hkd (5 * l + k)
        rw [← w105] at b5
        have b4 := h104 k hk
        have b6 : -1 ≤ W 104 0 (5 * l + k) ∧ W 104 0 (5 * l + k) ≤ 3999 := by
          rw [b4]
          split <;> omega
        exact ⟨b6.1, b6.2, b5.1, b5.2⟩
  · rw [e11, e17, x11.2.1, x50.1, x50.2.1, ← el]
    exact I_live_push hV (by omega)
  · rw [e11, w102, w95, x11.2.2, ← el]
    exact I_lying_push hY (by omega)
