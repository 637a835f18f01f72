/-! a new log, of the class: in whole -/
def newX (σ : St) (l ce : Nat) (so un wi br ft td s0 s1 kd : Int) : St := bcx (st (st (nwC (nwI (st (sta σ 4 l z0) 50 5 l 1) l ce so un wi br ft) l td ce so un wi s0 s1) 77 0 l 1) 11 0 4 ((l : Int) + 1)) l 0 ce (σ 31 0 ce + 1) 0 td kd
theorem newX_k {σ : St} {l ce : Nat} {so un wi br ft td s0 s1 kd : Int} {k : Nat} (h1 : ¬ k = 4) (h2 : ¬ k = 11) (h3 : ¬ k = 31) (h4 : ¬ k = 35) (h5 : ¬ k = 36) (h6 : ¬ k = 37) (h7 : ¬ k = 38) (h8 : ¬ k = 50) (h9 : ¬ k = 77) : newX σ l ce so un wi br ft td s0 s1 kd k = σ k := by
  unfold newX bcx nwC nwI
  simp only [rs_ne h1, rs_ne h2, rs_ne h3, rs_ne h4, rs_ne h5, rs_ne h6, rs_ne h7, rs_ne h8, rs_ne h9, ra_ne h1, ra_ne h4, ra_ne h5, ra_ne h6, ra_ne h7]
theorem newX_r {σ : St} {l ce i k : Nat} {so un wi br ft td s0 s1 kd : Int} (hi : ¬ i = l) (hk : k = 4 ∨ k = 35 ∨ k = 36 ∨ k = 37 ∨ k = 38) : newX σ l ce so un wi br ft td s0 s1 kd k i = σ k i := by
  have n11 : ¬ k = 11 := by omega
  have n31 : ¬ k = 31 := by omega
  have n50 : ¬ k = 50 := by omega
  have n77 : ¬ k = 77 := by omega
  unfold newX bcx nwC nwI
  simp only [rs_ne n11, rs_ne n31, rs_ne n50, rs_ne n77, rs_nej hi, ra_nej hi]
theorem newX_4 {σ : St} {l ce : Nat} {so un wi br ft td s0 s1 kd : Int} {g : Nat → Int} (e : newX σ l ce so un wi br ft td s0 s1 kd 4 l = g) : g 0 = so ∧ g 1 = un ∧ g 2 = wi ∧ g 3 = br ∧ g 4 = ft ∧ g 5 = ce ∧ g 6 = td ∧ g 7 = td ∧ g 8 = 0 ∧ g 9 = 1 ∧ g 14 = s0 ∧ g 15 = s1 := by
  rw [← e]
  unfold newX bcx nwC nwI
  simp (decide := true) only [rs_ne, rs_eq, up_eq, up_ne, ra_ne, ra_eq, not_false_eq_true]
