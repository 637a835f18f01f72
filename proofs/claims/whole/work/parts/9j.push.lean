/-! a new log: where it lies -/
theorem lies_congr {st1 st2 ce1 ce2 : Nat → Int} {x : Int} : ∀ n, (∀ i, i < n → st1 i = st2 i ∧ ce1 i = ce2 i) → lies st1 ce1 x n = lies st2 ce2 x n := by
  intro n
  induction n with
  | zero => intro _; rfl
  | succ n ih =>
    intro h
    have e1 : lies st1 ce1 x (n + 1) = lies st1 ce1 x n + (if st1 n = 0 ∧ ce1 n = x then 1 else 0) := rfl
    have e2 : lies st2 ce2 x (n + 1) = lies st2 ce2 x n + (if st2 n = 0 ∧ ce2 n = x then 1 else 0) := rfl
    obtain ⟨a, b⟩ := h n (by omega)
    rw [e1, e2, ih (fun i hi => h i (by omega)), a, b]
theorem I_lying_push {lc : Int} {ly state cell : Nat → Int} {c : Nat} (h : I_lying lc ly state cell) (hl : 0 ≤ lc) : I_lying (lc + 1) (up ly c (ly c + 1)) (up state lc.toNat 0) (up cell lc.toNat c) := by
  intro a ha
  have b := h a ha
  rw [show (lc + 1).toNat = lc.toNat + 1 by omega]
  have e1 : lies (up state lc.toNat 0) (up cell lc.toNat c) (a : Int) (lc.toNat + 1) = lies (up state lc.toNat 0) (up cell lc.toNat c) (a : Int) lc.toNat + (if up state lc.toNat 0 lc.toNat = 0 ∧ up cell lc.toNat c lc.toNat = (a : Int) then 1 else 0) := rfl
  rw [e1, lies_congr (st1 := up state lc.toNat 0) (st2 := state) (ce1 := up cell lc.toNat c) (ce2 := cell) lc.toNat (fun i hi => ⟨up_ne (by omega), up_ne (by omega)⟩), ← b, up_eq, up_eq]
  by_cases e : a = c
  · rw [e, up_eq, if_pos ⟨rfl, rfl⟩]
  · rw [up_ne e, if_neg (fun z => e (by omega)), Int.add_zero]
