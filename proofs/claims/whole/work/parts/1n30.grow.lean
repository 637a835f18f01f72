/-! a world that grows -/
def adu (ad : Nat → Nat → Nat) (k n q : Nat) : Nat → Nat → Nat := fun k' j' => if k' = k ∧ j' = n then q else ad k' j'
def phf (φ : Nat → Nat → Nat → Bool) (k n : Nat) (g : Nat → Bool) : Nat → Nat → Nat → Bool := fun k' j' => if k' = k ∧ j' = n then g else φ k' j'
theorem adu_ne {ad : Nat → Nat → Nat} {k n q k' j' : Nat} (h : ¬ (k' = k ∧ j' = n)) : adu ad k n q k' j' = ad k' j' := if_neg h
theorem adu_same {ad : Nat → Nat → Nat} {k n q : Nat} : adu ad k n q k n = q := if_pos ⟨rfl, rfl⟩
theorem phf_ne {φ : Nat → Nat → Nat → Bool} {k n : Nat} {g : Nat → Bool} {k' j' : Nat} (h : ¬ (k' = k ∧ j' = n)) : phf φ k n g k' j' = φ k' j' := if_neg h
theorem phf_same {φ : Nat → Nat → Nat → Bool} {k n : Nat} {g : Nat → Bool} : phf φ k n g k n = g := if_pos ⟨rfl, rfl⟩
def One (L : List (Nat × Nat)) : Prop := ∀ j, ((77, j) ∈ L ∨ (78, j) ∈ L ∨ (79, j) ∈ L) → j = 0
def growk (k : Nat) : Prop := k = 1 ∨ k = 4 ∨ k = 10 ∨ k = 35 ∨ k = 36 ∨ k = 37 ∨ k = 38
def growb (k : Nat) : Bool := k == 1 || k == 4 || k == 10 || k == 35 || k == 36 || k == 37 || k == 38
theorem growb_of {k : Nat} (h : growk k) : growb k = true := by rcases h with rfl | rfl | rfl | rfl | rfl | rfl | rfl <;> rfl
set_option maxHeartbeats 4000000 in
theorem pcell_adu {ct : Nat → ClassId} {ad : Nat → Nat → Nat} {k n q k' j' : Nat} {g : Nat → Bool} {f : Nat → Int} (hk : growk k) (h4 : k = 4 → k' = 77 → f n = 0) (h10 : k = 10 → k' = 78 → f n = 0) (h1 : k = 1 → k' = 79 → f n = 0) (h35 : 35 ≤ k → k ≤ 38 → k' = 4 → j' = n → g (k - 25) = false) : pcell ct (adu ad k n q) k' j' g f = pcell ct ad k' j' g f := by
  have es : ∀ K J, growb K = false → adu ad k n q K J = ad K J := fun K J hK => adu_ne (fun e => by have := growb_of hk; rw [← e.1, hK] at this; cases this)
  have ra : ∀ (K J : Nat) (b : Bool), ((K = k ∧ J = n) → b = false) → rv b (adu ad k n q K J) = rv b (ad K J) := by
    intro K J b hb
    by_cases e : K = k ∧ J = n
    · rw [hb e]
      rfl
    · rw [adu_ne e]
  have rq : ∀ (K : Nat) (F : Nat → Int), (K = k → F n = 0) → (fun i => if F i = 0 then none else some (adu ad k n q K i)) = (fun i => if F i = 0 then none else some (ad K i)) := by
    intro K F hF
    funext i
    by_cases e : K = k ∧ i = n
    · rw [e.2, hF e.1]
      rfl
    · rw [adu_ne e]
  unfold pcell
  split
  all_goals first
    | rfl
    | (simp [es, growb]; done)
    | skip
  all_goals first
    | (rw [rq 4 f (fun e => h4 e.symm rfl)]; done)
    | (rw [rq 10 f (fun e => h10 e.symm rfl)]; done)
    | (rw [rq 1 f (fun e => h1 e.symm rfl)]; done)
    | (rw [ra 35 j' (g 10) (fun e => by have := h35 (by omega) (by omega) rfl e.2; rw [← e.1] at this; exact this), ra 36 j' (g 11) (fun e => by have := h35 (by omega) (by omega) rfl e.2; rw [← e.1] at this; exact this), ra 37 j' (g 12) (fun e => by have := h35 (by omega) (by omega) rfl e.2; rw [← e.1] at this; exact this), ra 38 j' (g 13) (fun e => by have := h35 (by omega) (by omega) rfl e.2; rw [← e.1] at this; exact this)])
theorem pl_grow {ct : Nat → ClassId} {ad : Nat → Nat → Nat} {L : List (Nat × Nat)} {φ : Nat → Nat → Nat → Bool} {σ : St} {k n q : Nat} {g : Nat → Bool} {z : Nat → Int} (hk : growk k) (hO : One L) (hnot : (k, n) ∉ L) (h4 : k = 4 → σ 77 0 n = 0) (h10 : k = 10 → σ 78 0 n = 0) (h1 : k = 1 → σ 79 0 n = 0) (h35 : 35 ≤ k → k ≤ 38 → φ 4 n (k - 25) = false) :
    pl ct (adu ad k n q) (phf φ k n g) (sta σ k n z) L = pl ct ad φ σ L := by
  unfold pl
  apply List.map_congr_left
  intro x hx
  obtain ⟨k', j'⟩ := x
  have hne : ¬ (k' = k ∧ j' = n) := fun e => hnot (by rw [← e.1, ← e.2]; exact hx)
  show (adu ad k n q k' j', pcell ct (adu ad k n q) k' j' (phf φ k n g k' j') (sta σ k n z k' j')) = (ad k' j', pcell ct ad k' j' (φ k' j') (σ k' j'))
  rw [adu_ne hne, phf_ne hne, sta_ne hne, pcell_adu hk ?_ ?_ ?_ ?_]
  · intro e e2; subst e2; rw [hO j' (Or.inl hx)]; exact h4 e
  · intro e e2; subst e2; rw [hO j' (Or.inr (Or.inl hx))]; exact h10 e
  · intro e e2; subst e2; rw [hO j' (Or.inr (Or.inr hx))]; exact h1 e
  · intro e e2 e3 e4; subst e3; subst e4; exact h35 e e2
