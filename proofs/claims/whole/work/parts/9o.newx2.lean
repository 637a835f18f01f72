/-! a new log, of the class: the other rows -/
theorem newX_35 {σ : St} {l ce : Nat} {so un wi br ft td s0 s1 kd : Int} : newX σ l ce so un wi br ft td s0 s1 kd 35 l 0 = 0 ∧ newX σ l ce so un wi br ft td s0 s1 kd 36 l 0 = td ∧ newX σ l ce so un wi br ft td s0 s1 kd 37 l 0 = kd := by
  unfold newX bcx nwC nwI
  simp (decide := true) only [rs_ne, rs_eq, up_eq, up_ne, ra_ne, ra_eq, not_false_eq_true]
theorem newX_38 {σ : St} {l ce : Nat} {so un wi br ft td s0 s1 kd : Int} : ∀ k, k < 5 → newX σ l ce so un wi br ft td s0 s1 kd 38 l k = reg5 ce so un wi td k := by
  intro k hk
  unfold newX bcx nwC nwI
  simp (decide := true) only [rs_ne, rs_eq, ra_ne, ra_eq, not_false_eq_true]
  rcases (show k = 0 ∨ k = 1 ∨ k = 2 ∨ k = 3 ∨ k = 4 by omega) with rfl | rfl | rfl | rfl | rfl <;> rfl
theorem newX_11 {σ : St} {l ce : Nat} {so un wi br ft td s0 s1 kd : Int} : newX σ l ce so un wi br ft td s0 s1 kd 11 0 = up (σ 11 0) 4 ((l : Int) + 1) ∧ newX σ l ce so un wi br ft td s0 s1 kd 77 0 = up (σ 77 0) l 1 ∧ newX σ l ce so un wi br ft td s0 s1 kd 31 0 = up (σ 31 0) ce (σ 31 0 ce + 1) := by
  unfold newX bcx nwC nwI
  simp (decide := true) only [rs_ne, rs_eq, ra_ne, ra_eq, not_false_eq_true]
theorem newX_50 {σ : St} {l ce : Nat} {so un wi br ft td s0 s1 kd : Int} : newX σ l ce so un wi br ft td s0 s1 kd 50 4 = up (σ 50 4) l 1 ∧ newX σ l ce so un wi br ft td s0 s1 kd 50 5 = up (σ 50 5) l 1 ∧ ∀ j, ¬ j = 4 → ¬ j = 5 → newX σ l ce so un wi br ft td s0 s1 kd 50 j = σ 50 j := by
  unfold newX bcx nwC nwI
  refine ⟨?_, ?_, fun j j4 j5 => ?_⟩
  · simp (decide := true) only [rs_ne, rs_eq, rs_nej, ra_ne, ra_eq, not_false_eq_true]
  · simp (decide := true) only [rs_ne, rs_eq, rs_nej, ra_ne, ra_eq, not_false_eq_true]
  · simp (decide := true) only [rs_ne, rs_nej j4, rs_nej j5, ra_ne, not_false_eq_true]
