/-! a new log, of the class: it comes on -/
def nwC (σ : St) (l : Nat) (td c0 c1 c2 c3 s0 s1 : Int) : St := st (st (st (st (st (st (st (st (st σ 4 l 6 td) 4 l 7 td) 38 l 0 c0) 38 l 1 c1) 38 l 2 c2) 38 l 3 c3) 38 l 4 td) 4 l 14 s0) 4 l 15 s1
def reg5 (c0 c1 c2 c3 td : Int) : Nat → Int := fun k => if k = 0 then c0 else if k = 1 then c1 else if k = 2 then c2 else if k = 3 then c3 else td
theorem sx_comeOn {σ : St} {l : Nat} {td c0 c1 c2 c3 : Int} {Q : St → Prop} (hl : σ 50 4 l ≠ 0) (e5 : σ 4 l 5 = c0) (e0 : σ 4 l 0 = c1) (e1 : σ 4 l 1 = c2) (e2 : σ 4 l 2 = c3) (ht : 0 ≤ td ∧ td ≤ 3999) (b0 : 0 ≤ c0 ∧ c0 ≤ 63) (b1 : 0 ≤ c1 ∧ c1 ≤ 3) (b2 : 0 ≤ c2 ∧ c2 ≤ 6) (b3 : 0 ≤ c3 ∧ c3 ≤ 40) (q : Q (nwC σ l td c0 c1 c2 c3 (S0 (reg5 c0 c1 c2 c3 td) % 65537) (S1 (reg5 c0 c1 c2 c3 td) % 65537))) : wp_X4_comeOn σ l td Q := by
  unfold wp_X4_comeOn
  refine ⟨hl, fun s2 f2 => ?_⟩
  have r2 : s2 50 = σ 50 := by rw [f2, rs_ne (by decide)]
  refine ⟨by rw [r2]; exact hl, fun s4 f4 => ?_⟩
  have r4 : s4 50 = σ 50 := by rw [f4, rs_ne (by decide), r2]
  have v4 : s4 4 l 5 = c0 ∧ s4 4 l 0 = c1 ∧ s4 4 l 1 = c2 ∧ s4 4 l 2 = c3 := by
    rw [f4, rs_eq, up_ne (by decide), up_ne (by decide), up_ne (by decide), up_ne (by decide), f2, rs_eq, up_ne (by decide), up_ne (by decide), up_ne (by decide), up_ne (by decide)]
    exact ⟨e5, e0, e1, e2⟩
  refine ⟨by rw [r4]; exact hl, by rw [r4]; exact hl, by rw [r4]; exact hl, fun s8 f8 => ?_⟩
  have r8 : s8 50 = σ 50 := by rw [f8, rs_ne (by decide), r4]
  have v8 : s8 4 = s4 4 := by rw [f8, rs_ne (by decide)]
  refine ⟨by rw [r8]; exact hl, by rw [r8]; exact hl, by rw [r8]; exact hl, fun s12 f12 => ?_⟩
  have r12 : s12 50 = σ 50 := by rw [f12, rs_ne (by decide), r8]
  have v12 : s12 4 = s4 4 := by rw [f12, rs_ne (by decide), v8]
  refine ⟨by rw [r12]; exact hl, by rw [r12]; exact hl, by rw [r12]; exact hl, fun s16 f16 => ?_⟩
  have r16 : s16 50 = σ 50 := by rw [f16, rs_ne (by decide), r12]
  have v16 : s16 4 = s4 4 := by rw [f16, rs_ne (by decide), v12]
  refine ⟨by rw [r16]; exact hl, by rw [r16]; exact hl, by rw [r16]; exact hl, fun s20 f20 => ?_⟩
  have r20 : s20 50 = σ 50 := by rw [f20, rs_ne (by decide), r16]
  refine ⟨by rw [r20]; exact hl, by rw [r20]; exact hl, fun s23 f23 => ?_⟩
  have r23 : s23 50 = σ 50 := by rw [f23, rs_ne (by decide), r20]
  rw [v4.1] at f8
  rw [v8, v4.2.1] at f12
  rw [v12, v4.2.2.1] at f16
  rw [v16, v4.2.2.2] at f20
  have g38 : ∀ k, k < 5 → s23 38 l k = reg5 c0 c1 c2 c3 td k := by
    intro k hk
    rw [f23, rs_eq, f20, rs_eq, f16, rs_eq, f12, rs_eq, f8, rs_eq]
    rcases (show k = 0 ∨ k = 1 ∨ k = 2 ∨ k = 3 ∨ k = 4 by omega) with rfl | rfl | rfl | rfl | rfl <;> rfl
  have gb : ∀ k, k < 5 → 0 ≤ s23 38 l k ∧ s23 38 l k ≤ 65536 := by
    intro k hk
    rw [g38 k hk]
    rcases (show k = 0 ∨ k = 1 ∨ k = 2 ∨ k = 3 ∨ k = 4 by omega) with rfl | rfl | rfl | rfl | rfl
    · exact ⟨b0.1, by have := b0.2; show c0 ≤ 65536; omega⟩
    · exact ⟨b1.1, by have := b1.2; show c1 ≤ 65536; omega⟩
    · exact ⟨b2.1, by have := b2.2; show c2 ≤ 65536; omega⟩
    · exact ⟨b3.1, by have := b3.2; show c3 ≤ 65536; omega⟩
    · exact ⟨ht.1, by have := ht.2; show td ≤ 65536; omega⟩
  have gS0 : S0 (s23 38 l) = S0 (reg5 c0 c1 c2 c3 td) := by
    unfold S0
    rw [g38 0 (by decide), g38 1 (by decide), g38 2 (by decide), g38 3 (by decide), g38 4 (by decide)]
  have gS1 : S1 (s23 38 l) = S1 (reg5 c0 c1 c2 c3 td) := by
    unfold S1
    rw [g38 0 (by decide), g38 1 (by decide), g38 2 (by decide), g38 3 (by decide), g38 4 (by decide)]
  refine ⟨by rw [r23]; exact hl, sx_sumNow (by rw [r23]; exact hl) (Or.inl rfl) gb ⟨by rw [r23]; exact hl, fun s28 f28 => ?_⟩⟩
  rw [if_pos rfl, gS0] at f28
  have r28 : s28 50 = σ 50 := by rw [f28, rs_ne (by decide), r23]
  have h38 : s28 38 = s23 38 := by rw [f28, rs_ne (by decide)]
  refine ⟨by rw [r28]; exact hl, sx_sumNow (by rw [r28]; exact hl) (Or.inr rfl) (by rw [h38]; exact gb) ⟨by rw [r28]; exact hl, fun s33 f33 => ?_⟩⟩
  rw [if_neg (by decide), h38, gS1] at f33
  rw [f33, f28, f23, f20, f16, f12, f8, f4, f2]
  exact q
