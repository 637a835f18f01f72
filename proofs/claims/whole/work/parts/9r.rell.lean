/-! a new log, on both sides -/
def RelL (S V : St) : Prop := I_logA (S 11 0 4) (S 4) (S 38) (V 96 0) (V 97 0) (V 98 0) (V 99 0) (V 100 0) (V 101 0) (V 106 0) (V 107 0) (V 108 0) ∧ I_logB (S 11 0 4) (S 4) (S 35) (S 36) (S 37) (V 95 0) (V 103 0) (V 102 0) (V 104 0) (V 105 0) ∧ I_live (S 11 0 4) (V 12 0 17) (S 77 0) (S 50 4) (S 50 5) ∧ I_lying (S 11 0 4) (S 31 0) (V 102 0) (V 95 0) ∧ I_kf (V 105 0)
theorem newM_r {V : St} {l : Nat} {ce so un wi br ft td s0 s1 kd : Int} {W : St} (e : W = newM V l ce so un wi br ft td s0 s1 kd) : W 95 0 = up (V 95 0) l ce ∧ W 96 0 = up (V 96 0) l so ∧ W 97 0 = up (V 97 0) l un ∧ W 98 0 = up (V 98 0) l wi ∧ W 99 0 = up (V 99 0) l td ∧ W 100 0 = up (V 100 0) l br ∧ W 101 0 = up (V 101 0) l ft ∧ W 103 0 = up (V 103 0) l td ∧ W 102 0 = up (V 102 0) l 0 ∧ W 104 0 = up (clr5 (V 104 0) l 5) (5 * l + 0) td ∧ W 105 0 = up (V 105 0) (5 * l + 0) kd ∧ W 107 0 = up (V 107 0) l s0 ∧ W 108 0 = up (V 108 0) l s1 ∧ W 12 0 = up (V 12 0) 17 ((l : Int) + 1) := by
  rw [e]
  unfold newM bcm nmA
  simp (decide := true) only [rs_ne, rs_eq, ra_ne, ra_eq, not_false_eq_true, and_self]
theorem newM_106 {V : St} {l : Nat} {ce so un wi br ft td s0 s1 kd : Int} {W : St} (e : W = newM V l ce so un wi br ft td s0 s1 kd) : W 106 0 = up (up (up (up (up (V 106 0) (5 * l) ce) (5 * l + 1) so) (5 * l + 2) un) (5 * l + 3) wi) (5 * l + 4) td := by
  rw [e]
  unfold newM bcm nmA
  simp (decide := true) only [rs_ne, rs_eq, ra_ne, ra_eq, not_false_eq_true]
theorem newM_k {V : St} {l k : Nat} {ce so un wi br ft td s0 s1 kd : Int} (h : k < 95 ∨ 108 < k) (h2 : ¬ k = 12) : newM V l ce so un wi br ft td s0 s1 kd k = V k := by
  unfold newM bcm nmA
  rw [rs_ne (by omega), rs_ne (by omega), rs_ne (by omega), rs_ne (by omega), rs_ne (by omega), rs_ne (by omega), rs_ne (by omega), rs_ne (by omega), rs_ne (by omega), rs_ne (by omega), ra_ne (by omega), rs_ne (by omega), rs_ne (by omega), rs_ne (by omega), rs_ne (by omega), rs_ne (by omega), rs_ne (by omega), rs_ne (by omega), rs_ne (by omega), rs_ne h2]
theorem clr5_v {f : Nat → Int} {l : Nat} : (∀ k, k < 5 * l → clr5 f l 5 k = f k) ∧ ∀ q, q < 5 → clr5 f l 5 (5 * l + q) = -1 := by
  have e : clr5 f l 5 = up (up (up (up (up f (5 * l + 0) (-1)) (5 * l + 1) (-1)) (5 * l + 2) (-1)) (5 * l + 3) (-1)) (5 * l + 4) (-1) := rfl
  rw [e]
  refine ⟨fun k hk => ?_, fun q hq => ?_⟩
  · rw [up_ne (by omega), up_ne (by omega), up_ne (by omega), up_ne (by omega), up_ne (by omega)]
  · rcases (show q = 0 ∨ q = 1 ∨ q = 2 ∨ q = 3 ∨ q = 4 by omega) with rfl | rfl | rfl | rfl | rfl
    · rw [up_ne (by omega), up_ne (by omega), up_ne (by omega), up_ne (by omega), up_eq]
    · rw [up_ne (by omega), up_ne (by omega), up_ne (by omega), up_eq]
    · rw [up_ne (by omega), up_ne (by omega), up_eq]
    · rw [up_ne (by omega), up_eq]
    · rw [up_eq]
