/-! a new log, of the class: its beginning -/
def nwI (σ : St) (l : Nat) (x2 x3 x4 x5 x6 v : Int) : St := st (st (st (st (st (st (st (st (st (sta (sta (sta (sta (st (st (st (st σ 4 l 6 0) 4 l 7 0) 4 l 8 (-1)) 4 l 9 0) 35 l z0) 36 l z0) 37 l z0) 38 l z0) 4 l 14 0) 4 l 15 0) 4 l 5 x2) 4 l 0 x3) 4 l 1 x4) 4 l 2 x5) 4 l 3 x6) 4 l 4 v) 50 4 l 1
def ftv (a w : Int) : Int := if w ≤ Int.tmod a (w + 3) then -1 else Int.tmod a (w + 3)
theorem sx_init {σ : St} {l : Nat} {x1 x2 x3 x4 x5 x6 : Int} {Q : St → Prop} (h4 : σ 50 4 l = 0) (h5 : σ 50 5 l ≠ 0) (hx1 : 0 ≤ x1 ∧ x1 ≤ 300) (hx2 : 0 ≤ x2 ∧ x2 ≤ 63) (hx5 : 1 ≤ x5 ∧ x5 ≤ 40) (q : Q (nwI σ l x2 x3 x4 x5 x6 (ftv (x1 * 7 + x2) x5))) : wp_X4_init σ l x1 x2 x3 x4 x5 x6 Q := by
  have em : Int.tmod (x1 * 7 + x2) (x5 + 3) = (x1 * 7 + x2) % (x5 + 3) := Int.tmod_eq_emod_of_nonneg (by omega)
  have l1 := Int.emod_lt_of_pos (x1 * 7 + x2) (show 0 < x5 + 3 by omega)
  have l0 := Int.emod_nonneg (x1 * 7 + x2) (show x5 + 3 ≠ 0 by omega)
  unfold ftv at q
  rw [em] at q
  unfold wp_X4_init
  rw [em]
  intro s1 e1 s2 e2 s3 e3 s4 e4
  have r4 : s4 50 = σ 50 := by rw [e4, rs_ne (by decide), e3, rs_ne (by decide), e2, rs_ne (by decide), e1, rs_ne (by decide)]
  refine ⟨by rw [r4]; exact h5, fun s6 e6 => ?_⟩
  have r6 : s6 50 = σ 50 := by rw [e6, ra_ne (by decide), r4]
  refine ⟨by rw [r6]; exact h4, by rw [r6]; exact h5, fun s9 e9 => ?_⟩
  have r9 : s9 50 = σ 50 := by rw [e9, ra_ne (by decide), r6]
  refine ⟨by rw [r9]; exact h4, by rw [r9]; exact h5, fun s12 e12 => ?_⟩
  have r12 : s12 50 = σ 50 := by rw [e12, ra_ne (by decide), r9]
  refine ⟨by rw [r12]; exact h4, by rw [r12]; exact h5, fun s15 e15 => ?_⟩
  have r15 : s15 50 = σ 50 := by rw [e15, ra_ne (by decide), r12]
  refine ⟨by rw [r15]; exact h4, fun s17 e17 s18 e18 s19 e19 s20 e20 s21 e21 s22 e22 s23 e23 => ?_⟩
  have es : ∀ v : Int, st (st s23 4 l 4 v) 50 4 l 1 = nwI σ l x2 x3 x4 x5 x6 v := by
    intro v
    rw [e23, e22, e21, e20, e19, e18, e17, e15, e12, e9, e6, e4, e3, e2, e1]
    rfl
  refine ⟨⟨by omega, by omega⟩, ⟨by omega, by omega⟩, by omega, by omega, fun v ev => ⟨⟨by omega, by omega⟩, ⟨by omega, by omega⟩, fun y a ea b eb => ?_, fun y a ea b eb => ?_⟩⟩
  · rw [if_pos (by omega)] at q
    rw [eb, ea, es]
    exact q
  · rw [if_neg (by omega)] at q
    rw [eb, ea, es, ev]
    exact q
