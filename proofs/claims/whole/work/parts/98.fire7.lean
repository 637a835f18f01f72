/-! fire: what it leaves of the logs, of the class -/
noncomputable def cfv (a v : Nat → Int) (P : Nat → Prop) : Nat → Int := fun i => @ite Int (P i) (Classical.propDecidable (P i)) (v i) (a i)
theorem cfv_p {a v : Nat → Int} {P : Nat → Prop} {i : Nat} (h : P i) : cfv a v P i = v i := if_pos h
theorem cfv_n {a v : Nat → Int} {P : Nat → Prop} {i : Nat} (h : ¬ P i) : cfv a v P i = a i := if_neg h
theorem cfv_up {a v : Nat → Int} {P P' : Nat → Prop} {j : Nat} (h : ∀ i, P' i ↔ P i ∨ i = j) : cfv a v P' = up (cfv a v P) j (v j) := by
  funext i
  by_cases e : i = j
  · rw [e, up_eq, cfv_p ((h j).2 (Or.inr rfl))]
  · rw [up_ne e]
    by_cases p : P i
    · rw [cfv_p p, cfv_p ((h i).2 (Or.inl p))]
    · rw [cfv_n p, cfv_n (fun z => ?_)]
      rcases (h i).1 z with y | y
      · exact p y
      · exact e y
theorem cfv_same {a v : Nat → Int} {P P' : Nat → Prop} (h : ∀ i, P' i ↔ P i) : cfv a v P' = cfv a v P := by
  rw [show P' = P from funext (fun i => propext (h i))]
def at5 (P : Nat → Prop) (x : Nat) : Nat → Prop := fun k => P (k / 5) ∧ k % 5 = x
theorem at5_up {P P' : Nat → Prop} {j x : Nat} (hx : x < 5) (h : ∀ i, P' i ↔ P i ∨ i = j) : ∀ k, at5 P' x k ↔ at5 P x k ∨ k = 5 * j + x := by
  intro k
  unfold at5
  rw [h]
  constructor
  · rintro ⟨y | y, z⟩
    · exact Or.inl ⟨y, z⟩
    · exact Or.inr (by omega)
  · rintro (⟨y, z⟩ | y)
    · exact ⟨Or.inl y, z⟩
    · exact ⟨Or.inr (by omega), by omega⟩
theorem at5_same {P P' : Nat → Prop} {x : Nat} (h : ∀ i, P' i ↔ P i) : ∀ k, at5 P' x k ↔ at5 P x k := by
  intro k
  unfold at5
  rw [h]
def kdv (td mill : Int) (cell : Nat → Int) : Nat → Int := fun k => td + Int.tdiv (apv (cell (k / 5)) mill) 4
/-- the class's logs when those of P have become x -/
def LgX (σ S : St) (x td : Int) (P : Nat → Prop) : Prop := (∀ k, ¬ k = 4 → ¬ k = 31 → ¬ k = 35 → ¬ k = 36 → ¬ k = 37 → S k = σ k) ∧ I_logA (σ 11 0 4) (S 4) (σ 38) (σ 96 0) (σ 97 0) (σ 98 0) (σ 99 0) (σ 100 0) (σ 101 0) (σ 106 0) (σ 107 0) (σ 108 0) ∧ I_logB (σ 11 0 4) (S 4) (S 35) (S 36) (S 37) (σ 95 0) (σ 103 0) (cfv (σ 102 0) (fun _ => x) P) (cfv (σ 104 0) (fun _ => td) (at5 P x.toNat)) (cfv (σ 105 0) (kdv td (σ 3 0 6) (σ 95 0)) (at5 P x.toNat)) ∧ I_lying (σ 11 0 4) (S 31 0) (cfv (σ 102 0) (fun _ => x) P) (σ 95 0)
theorem LgX_same {σ S : St} {x td : Int} {P P' : Nat → Prop} (h : LgX σ S x td P) (hp : ∀ i, P' i ↔ P i) : LgX σ S x td P' := by
  rw [show P' = P from funext (fun i => propext (hp i))]
  exact h
/-- one more log -/
theorem LgX_step {σ S : St} {j cell c : Nat} {x td ly kd : Int} {P P' : Nat → Prop} (h : LgX σ S x td P) (hj : (j : Int) < σ 11 0 4) (hn : ¬ P j) (hs : (σ 102 0 j = 0 ∧ (x = 1 ∨ x = 3 ∨ x = 4)) ∨ (σ 102 0 j = 1 ∧ x = 2)) (h9 : S 4 j 9 = c) (h5 : σ 95 0 j = cell) (hc : cell ≤ 63) (hm : 0 ≤ σ 3 0 6 ∧ σ 3 0 6 ≤ 63) (ht : 0 ≤ td ∧ td ≤ 3999) (hly : ly = S 31 0 cell + (nil01 x - nil01 (σ 102 0 j))) (hkd : kd = td + Int.tdiv (apv cell (σ 3 0 6)) 4) (hp : ∀ i, P' i ↔ P i ∨ i = j) : LgX σ (bcx S j x cell ly c td kd) x td P' := by
  obtain ⟨g1, g2, g3, g4⟩ := h
  have ab := apv_b (a := (cell : Int)) (b := σ 3 0 6) (by omega) (by omega) hm.1 hm.2
  have hk : 0 ≤ kd ∧ kd ≤ 4010 := by
    rw [hkd, Int.tdiv_eq_ediv_of_nonneg ab.1]
    omega
  have x5 : x.toNat < 5 := by
    rcases hs with ⟨-, y⟩ | ⟨-, y⟩ <;> omega
  have e102 : cfv (σ 102 0) (fun _ => x) P j = σ 102 0 j := cfv_n hn
  have c1 : cfv (σ 102 0) (fun _ => x) P' = up (cfv (σ 102 0) (fun _ => x) P) j x := cfv_up hp
  have c2 : cfv (σ 104 0) (fun _ => td) (at5 P' x.toNat) = up (cfv (σ 104 0) (fun _ => td) (at5 P x.toNat)) (5 * j + x.toNat) td := cfv_up (at5_up x5 hp)
  have c3 : cfv (σ 105 0) (kdv td (σ 3 0 6) (σ 95 0)) (at5 P' x.toNat) = up (cfv (σ 105 0) (kdv td (σ 3 0 6) (σ 95 0)) (at5 P x.toNat)) (5 * j + x.toNat) kd := by
    have e := cfv_up (a := σ 105 0) (v := kdv td (σ 3 0 6) (σ 95 0)) (at5_up x5 hp)
    have ev : kdv td (σ 3 0 6) (σ 95 0) (5 * j + x.toNat) = kd := by
      unfold kdv
      rw [show (5 * j + x.toNat) / 5 = j by omega, h5, hkd]
    rw [ev] at e
    exact e
  unfold LgX
  rw [c1, c2, c3]
  have d4 : bcx S j x cell ly c td kd 4 = upj (upj (S 4) j 8 x) j 9 ((c : Int) + 1) := by
    unfold bcx
    rw [rs_fn, rs_ne (by decide), rs_ne (by decide), rs_ne (by decide), rs_fn, rs_ne (by decide)]
  have d35 : bcx S j x cell ly c td kd 35 = upj (S 35) j c x := by
    unfold bcx
    rw [rs_ne (by decide), rs_ne (by decide), rs_ne (by decide), rs_fn, rs_ne (by decide), rs_ne (by decide)]
  have d36 : bcx S j x cell ly c td kd 36 = upj (S 36) j c td := by
    unfold bcx
    rw [rs_ne (by decide), rs_ne (by decide), rs_fn, rs_ne (by decide), rs_ne (by decide), rs_ne (by decide)]
  have d37 : bcx S j x cell ly c td kd 37 = upj (S 37) j c kd := by
    unfold bcx
    rw [rs_ne (by decide), rs_fn, rs_ne (by decide), rs_ne (by decide), rs_ne (by decide), rs_ne (by decide)]
  have d31 : bcx S j x cell ly c td kd 31 0 = up (S 31 0) cell ly := by
    unfold bcx
    rw [rs_ne (by decide), rs_ne (by decide), rs_ne (by decide), rs_ne (by decide), rs_ne (by decide), rs_eq]
  rw [d4, d35, d36, d37, d31]
  refine ⟨fun k z1 z2 z3 z4 z5 => ?_, I_logA_step g2, I_logB_step g3 hj (by rw [e102]; exact hs) h9 rfl (by rcases hs with ⟨-, y⟩ | ⟨-, y⟩ <;> omega) ht hk, I_lying_step g4 hj h5 (by rw [e102]; exact hly)⟩
  unfold bcx
  rw [rs_ne z1, rs_ne z5, rs_ne z4, rs_ne z3, rs_ne z1, rs_ne z2]
  exact g1 k z1 z2 z3 z4 z5
theorem bl_loop {σ : St} {r : Int} {Q : Int → St → Prop} (hl : 0 ≤ σ 11 0 4 ∧ σ 11 0 4 ≤ 300) (hv : ∀ i : Nat, (i : Int) < σ 11 0 4 → σ 77 0 i ≠ 0 ∧ σ 50 4 i ≠ 0) (hg : ∀ c, c < 64 → 0 ≤ σ 34 0 c ∧ σ 34 0 c ≤ 100) (hm : 0 ≤ σ 3 0 6 ∧ σ 3 0 6 ≤ 63) (ht : 0 ≤ σ 7 0 3 ∧ σ 7 0 3 ≤ 3999) (q : ∀ S, LgX σ S 3 (σ 7 0 3) (fun i => (i : Int) < σ 11 0 4 ∧ σ 102 0 i = 0 ∧ ¬ σ 34 0 (σ 95 0 i).toNat = 0) → Q r S) :
    ∀ (k m n : Nat) (S : St), m + k = (σ 11 0 4).toNat → k < n → LgX σ S 3 (σ 7 0 3) (fun i => i < m ∧ σ 102 0 i = 0 ∧ ¬ σ 34 0 (σ 95 0 i).toNat = 0) → wp_X11_burnFrom_30 Q n S r m := by
  intro k
  induction k with
  | zero =>
    intro m n S hk hn hS
    obtain ⟨n, rfl⟩ : ∃ n', n = n' + 1 := ⟨n - 1, by omega⟩
    have r11 : S 11 = σ 11 := hS.1 11 (by decide) (by decide) (by decide) (by decide) (by decide)
    unfold wp_X11_burnFrom_30
    rw [r11]
    refine ⟨⟨by omega, by omega⟩, ⟨by omega, by omega⟩, fun _ => q S (LgX_same hS (fun i => ?_)), fun z => absurd (by omega) z⟩
    constructor
    · rintro ⟨y1, y2⟩
      exact ⟨by omega, y2⟩
    · rintro ⟨y1, y2⟩
      exact ⟨by omega, y2⟩
  | succ k ih =>
    intro m n S hk hn hS
    obtain ⟨n, rfl⟩ : ∃ n', n = n' + 1 := ⟨n - 1, by omega⟩
    have hm2 : (m : Int) < σ 11 0 4 := by omega
    obtain ⟨g1, g2, g3, g4⟩ := id hS
    have r11 : S 11 = σ 11 := g1 11 (by decide) (by decide) (by decide) (by decide) (by decide)
    have r77 : S 77 = σ 77 := g1 77 (by decide) (by decide) (by decide) (by decide) (by decide)
    have r50 : S 50 = σ 50 := g1 50 (by decide) (by decide) (by decide) (by decide) (by decide)
    have r34 : S 34 = σ 34 := g1 34 (by decide) (by decide) (by decide) (by decide) (by decide)
    have r3 : S 3 = σ 3 := g1 3 (by decide) (by decide) (by decide) (by decide) (by decide)
    have r7 : S 7 = σ 7 := g1 7 (by decide) (by decide) (by decide) (by decide) (by decide)
    obtain ⟨l7, l4⟩ := hv m hm2
    obtain ⟨⟨b5, b7, b8⟩, ⟨-, bh⟩, bc, -⟩ := g3 m hm2
    rw [cfv_n (fun z => absurd z.1 (by omega))] at b8 bh
    have gc := hg (σ 95 0 m).toNat (by omega)
    have sk : ¬ (σ 102 0 m = 0 ∧ ¬ σ 34 0 (σ 95 0 m).toNat = 0) → wp_X11_burnFrom_84 (fun σ x4 x5 => wp_X11_burnFrom_30 Q n σ x4 x5) Q S r m := by
      intro hno
      unfold wp_X11_burnFrom_84
      rw [show ((m : Int) + 1) = ((m + 1 : Nat) : Int) by omega]
      refine ih (m + 1) n S (by omega) (by omega) (LgX_same hS (fun i => ?_))
      constructor
      · rintro ⟨y1, y2⟩
        refine ⟨?_, y2⟩
        by_cases e : i = m
        · rw [e] at y2
          exact absurd y2 hno
        · omega
      · rintro ⟨y1, y2⟩
        exact ⟨by omega, y2⟩
    have s8 : 0 ≤ σ 102 0 m ∧ σ 102 0 m ≤ 4 := by
      rcases bh with h | h | h | h | h <;> omega
    unfold wp_X11_burnFrom_30
    rw [Int.toNat_natCast, r11, r77, r50, b8, b5, r34]
    refine ⟨⟨by omega, by omega⟩, ⟨by omega, by omega⟩, fun z => absurd z (by omega), fun _ => ⟨by omega, by omega, fun z => absurd z l7, fun _ _ => ⟨l4, ⟨by omega, by omega⟩, fun y => sk (fun z => y z.1), fun y => ⟨l4, by omega, by omega, ⟨by omega, by omega⟩, fun z => sk (fun u => u.2 (by omega)), fun z => ?_⟩⟩⟩⟩
    have c9 : S 4 m 9 = (1 : Nat) := by
      rcases bh with h | h | h | h | h <;> omega
    refine sx_become (s := 0) (cell := (σ 95 0 m).toNat) (c := 1) (td := σ 7 0 3) (by rw [r50]; exact l4) (by omega) in0 ⟨by decide, by decide⟩ (by omega) (by omega) c9 (by decide) (by rw [r3]; exact hm) (by rw [r7]) ?_
    unfold wp_X11_burnFrom_84
    rw [show ((m : Int) + 1) = ((m + 1 : Nat) : Int) by omega, r3]
    refine ih (m + 1) n _ (by omega) (by omega) (LgX_step hS hm2 (fun u => absurd u.1 (by omega)) (Or.inl ⟨y, by omega⟩) c9 (by omega) (by omega) hm ht (by rw [y]) rfl (fun i => ?_))
    constructor
    · rintro ⟨y1, y2⟩
      by_cases e : i = m
      · exact Or.inr e
      · exact Or.inl ⟨by omega, y2⟩
    · rintro (⟨y1, y2⟩ | y1)
      · exact ⟨by omega, y2⟩
      · rw [y1]
        exact ⟨by omega, y, by omega⟩
