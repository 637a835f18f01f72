/-! the call law -/
noncomputable def s0P (σ : St) (b : Nat → Int) (z tx : Nat) : PS := adv b z (mkP 1 0 0 0 0 0 (-1) (fun k => σ 68 0 (12 * tx + k)) (fun k => σ 69 0 (12 * tx + k)) (fun k => σ 70 0 (12 * tx + k)) (fun k => σ 71 0 (60 * tx + k)) (fun k => σ 72 0 (60 * tx + k)) (fun k => σ 73 0 (60 * tx + k)) (fun k => σ 74 0 (60 * tx + k)))
theorem WF_s0 {σ : St} {b : Nat → Int} {z tx : Nat} : WF b z (s0P σ b z tx) ∧ WG (s0P σ b z tx) := by
  obtain ⟨t1, t2, t3, t4, t5, t6, t7, t8⟩ := tk_b (b := b) (z := z) (p := 0) (Nat.zero_le _)
  refine ⟨⟨⟨show (0 : Int) ≤ 1 by decide, show (1 : Int) ≤ 9 by decide⟩, ⟨t2, t3⟩, show 0 ≤ 12 by decide, fun c => absurd (show (2 : Int) ≤ 1 from c) (by decide), fun c => by rcases c with c | c | c <;> exact absurd (show (1 : Int) = _ from c) (by decide), ⟨t7, t8⟩, t4, t5, fun c => tk_num c⟩, fun c => absurd (show (1 : Int) = 0 from c) (by decide), fun _ => ⟨rfl, rfl⟩⟩
/-- the class's world behind a text -/
def LwX (σ S : St) (tx : Nat) (x1 : Int) (f : PS) (r : Int) : Prop := ∃ V : St, CR (st (st (st (st σ 8 0 11 0) 8 0 12 (-1)) 66 0 tx x1) 67 0 tx 0) V tx f ∧ ((f.fk = 0 ∧ r = f.len ∧ S = st (st V 9 0 1 0) 8 0 10 ((tx : Int) + 1)) ∨ (¬ f.fk = 0 ∧ r = -1 - f.fk ∧ S = st V 9 0 1 0))
theorem sx_tellL {σ : St} {b : Nat → Int} {z tx : Nat} {x1 : Int} {Q : Int → St → Prop} (hB : Bse σ b z tx) (q : ∀ S f r, Rch b z (s0P σ b z tx) f → WG f → LwX σ S tx x1 f r → Q r S) : wp_X8_tell σ x1 Q := by
  obtain ⟨b1, b2, b3, b4, b5, b6⟩ := id hB
  intro s1 e1 s2 e2
  have r10 : s2 8 0 10 = tx := by rw [e2, rs_eq, up_ne (by decide), e1, rs_eq, up_ne (by decide), b5]
  rw [r10, Int.toNat_natCast]
  refine ⟨by omega, by omega, fun s5 e5 => ?_⟩
  have r5 : s5 8 0 10 = tx := by rw [e5, rs_ne (by decide), r10]
  rw [r5, Int.toNat_natCast]
  refine ⟨by omega, by omega, fun s8 e8 => ?_⟩
  have eB : s8 = st (st (st (st σ 8 0 11 0) 8 0 12 (-1)) 66 0 tx x1) 67 0 tx 0 := by rw [e8, e5, e2, e1]
  have k8 : ∀ k, ¬ k = 8 → ¬ k = 66 → ¬ k = 67 → s8 k = σ k := fun k z1 z2 z3 => by rw [eB, rs_ne z3, rs_ne z2, rs_ne z1, rs_ne z1]
  have hB8 : Bse s8 b z tx := ⟨by rw [k8 76 (by decide) (by decide) (by decide), b1], by rw [k8 9 (by decide) (by decide) (by decide), b2], b3, b4, by rw [e8, rs_ne (by decide), r5], b6⟩
  unfold wp_X8_readText wp_X9_rewind
  intro sr er
  have Tr : TpX sr b z := ⟨by rw [er, rs_ne (by decide)]; exact hB8.1, by rw [er, rs_eq, up_ne (by decide)]; exact hB8.2.1, b3, b4⟩
  refine sx_next (p := 0) Tr (by rw [er, rs_eq, up_eq]; rfl) (Nat.zero_le _) (fun S hn => ⟨303, ?_⟩)
  obtain ⟨n1, n2, n3, n4, n5⟩ := hn
  have kS : ∀ k, ¬ k = 9 → S k = s8 k := fun k z => by rw [n1 k z, er, rs_ne z]
  have W := WF_s0 (σ := σ) (b := b) (z := z) (tx := tx)
  have C0 : CR s8 S tx (s0P σ b z tx) := by
    refine ⟨⟨n3, n4, n5, ?_, ?_, ?_⟩, fun k hk => ?_, fun k hk => ?_, fun k z1 z2 _ => kS k z2, fun i _ _ => by rw [kS 8 (by decide)], fun i z2 z3 z4 => by rw [n2 i z2 z3 z4, er, rs_eq, up_ne z4], fun i _ => by rw [kS 67 (by decide)], fun i _ => ?_, fun i _ => ?_⟩
    · rw [kS 67 (by decide), e8, rs_eq, up_eq]
      rfl
    · rw [kS 8 (by decide), eB, rs_ne (by decide), rs_ne (by decide), rs_eq, up_ne (by decide), rs_eq, up_eq]
      rfl
    · rw [kS 8 (by decide), eB, rs_ne (by decide), rs_ne (by decide), rs_eq, up_eq]
      rfl
    · rw [kS 68 (by decide), kS 69 (by decide), kS 70 (by decide), k8 68 (by decide) (by decide) (by decide), k8 69 (by decide) (by decide) (by decide), k8 70 (by decide) (by decide) (by decide)]
      exact ⟨rfl, rfl, rfl⟩
    · rw [kS 71 (by decide), kS 72 (by decide), kS 73 (by decide), kS 74 (by decide), k8 71 (by decide) (by decide) (by decide), k8 72 (by decide) (by decide) (by decide), k8 73 (by decide) (by decide) (by decide), k8 74 (by decide) (by decide) (by decide)]
      exact ⟨rfl, rfl, rfl, rfl⟩
    · rw [kS 68 (by decide), kS 69 (by decide), kS 70 (by decide)]
      exact ⟨rfl, rfl, rfl⟩
    · rw [kS 71 (by decide), kS 72 (by decide), kS 73 (by decide), kS 74 (by decide)]
      exact ⟨rfl, rfl, rfl, rfl⟩
  refine rd_loop hB8 301 0 303 S (s0P σ b z tx) (by omega) (by omega) C0 W.1 W.2 (fun _ => Nat.zero_le _) (fun V f hr hC hG => ?_)
  intro s10 e10
  have c11 : s10 8 0 11 = f.fk := by rw [e10, rs_ne (by decide), hC.1.2.2.2.2.1]
  have c10 : s10 8 0 10 = tx := by rw [e10, rs_ne (by decide), (hC.tp hB8).2]
  have fkb : 0 ≤ f.fk ∧ f.fk ≤ 2 := by
    by_cases c : f.w = 0
    · rcases hG.1 c with d | d <;> omega
    · have := (hG.2 c).1
      omega
  rw [eB] at hC
  rw [c11, c10]
  refine ⟨⟨by omega, by omega⟩, fun c s12 e12 => ?_, fun c => q s10 f _ hr hG ⟨V, hC, Or.inr ⟨c, rfl, e10⟩⟩⟩
  have d10 : s12 8 0 10 = (tx : Int) + 1 := by rw [e12, rs_eq, up_eq]
  have d67 : s12 67 0 tx = f.len := by rw [e12, rs_ne (by decide), e10, rs_ne (by decide), hC.1.2.2.2.1]
  rw [d10, show Int.toNat ((tx : Int) + 1 - 1) = tx by omega, d67]
  exact ⟨by omega, by omega, q s12 f _ hr hG ⟨V, hC, Or.inl ⟨c, rfl, by rw [e12, e10]⟩⟩⟩
theorem LwX_k {σ S : St} {tx : Nat} {x1 r : Int} {f : PS} (h : LwX σ S tx x1 f r) : (∀ k, ¬ k = 8 → ¬ k = 9 → (k < 66 ∨ 74 < k) → S k = σ k) ∧ S 9 0 1 = 0 ∧ S 8 0 12 = f.fp ∧ S 66 0 = up (σ 66 0) tx x1 ∧ S 67 0 tx = f.len ∧ (∀ i, ¬ i = tx → S 67 0 i = σ 67 0 i) ∧ (∀ k, k < 12 → S 68 0 (12 * tx + k) = f.vb k ∧ S 69 0 (12 * tx + k) = f.ob k ∧ S 70 0 (12 * tx + k) = f.tm k) ∧ (∀ k, k < 60 → S 71 0 (60 * tx + k) = f.ng k ∧ S 72 0 (60 * tx + k) = f.wd k ∧ S 73 0 (60 * tx + k) = f.rl k ∧ S 74 0 (60 * tx + k) = f.vl k) ∧ (∀ i, i < 12 * tx → S 68 0 i = σ 68 0 i ∧ S 69 0 i = σ 69 0 i ∧ S 70 0 i = σ 70 0 i) ∧ (∀ i, i < 60 * tx → S 71 0 i = σ 71 0 i ∧ S 72 0 i = σ 72 0 i ∧ S 73 0 i = σ 73 0 i ∧ S 74 0 i = σ 74 0 i) ∧ ((f.fk = 0 ∧ r = f.len ∧ S 8 0 10 = (tx : Int) + 1) ∨ (¬ f.fk = 0 ∧ r = -1 - f.fk ∧ S 8 0 10 = σ 8 0 10)) := by
  obtain ⟨V, ⟨⟨a1, a2, a3, a4, a5, a6⟩, h2, h3, h4, h5, h6, h7, h8, h9⟩, hS⟩ := h
  have eS : (∀ k, ¬ k = 8 → ¬ k = 9 → S k = V k) ∧ S 9 0 1 = 0 ∧ S 8 0 12 = V 8 0 12 := by
    rcases hS with ⟨-, -, e⟩ | ⟨-, -, e⟩
    · refine ⟨fun k z1 z2 => by rw [e, rs_ne z1, rs_ne z2], by rw [e, rs_ne (by decide), rs_eq, up_eq], by rw [e, rs_eq, up_ne (by decide), rs_ne (by decide)]⟩
    · refine ⟨fun k z1 z2 => by rw [e, rs_ne z2], by rw [e, rs_eq, up_eq], by rw [e, rs_ne (by decide)]⟩
  have b : ∀ k, ¬ k = 8 → ¬ k = 66 → ¬ k = 67 → st (st (st (st σ 8 0 11 0) 8 0 12 (-1)) 66 0 tx x1) 67 0 tx 0 k = σ k := fun k z1 z2 z3 => by rw [rs_ne z3, rs_ne z2, rs_ne z1, rs_ne z1]
  rw [b 68 (by decide) (by decide) (by decide), b 69 (by decide) (by decide) (by decide), b 70 (by decide) (by decide) (by decide)] at h8
  rw [b 71 (by decide) (by decide) (by decide), b 72 (by decide) (by decide) (by decide), b 73 (by decide) (by decide) (by decide), b 74 (by decide) (by decide) (by decide)] at h9
  refine ⟨fun k z1 z2 z3 => ?_, eS.2.1, by rw [eS.2.2, a6], ?_, ?_, fun i hi => ?_, ?_, ?_, ?_, ?_, ?_⟩
  · rw [eS.1 k z1 z2, h4 k z1 z2 (by omega), b k z1 (by omega) (by omega)]
  · rw [eS.1 66 (by decide) (by decide), h4 66 (by decide) (by decide) (by decide), rs_ne (by decide), rs_eq, rs_ne (by decide), rs_ne (by decide)]
  · rw [eS.1 67 (by decide) (by decide), a4]
  · rw [eS.1 67 (by decide) (by decide), h7 i hi, rs_eq, up_ne hi, rs_ne (by decide), rs_ne (by decide), rs_ne (by decide)]
  · rw [eS.1 68 (by decide) (by decide), eS.1 69 (by decide) (by decide), eS.1 70 (by decide) (by decide)]
    exact h2
  · rw [eS.1 71 (by decide) (by decide), eS.1 72 (by decide) (by decide), eS.1 73 (by decide) (by decide), eS.1 74 (by decide) (by decide)]
    exact h3
  · rw [eS.1 68 (by decide) (by decide), eS.1 69 (by decide) (by decide), eS.1 70 (by decide) (by decide)]
    exact h8
  · rw [eS.1 71 (by decide) (by decide), eS.1 72 (by decide) (by decide), eS.1 73 (by decide) (by decide), eS.1 74 (by decide) (by decide)]
    exact h9
  · rcases hS with ⟨c, e1, e⟩ | ⟨c, e1, e⟩
    · exact Or.inl ⟨c, e1, by rw [e, rs_eq, up_eq]⟩
    · refine Or.inr ⟨c, e1, ?_⟩
      rw [e, rs_ne (by decide), h5 10 (by decide) (by decide), rs_ne (by decide), rs_ne (by decide), rs_eq, up_ne (by decide), rs_eq, up_ne (by decide)]
