/-! a new log, of the class: one turn of the loop -/
theorem sx_oneLog {σ : St} {l ce : Nat} {so sz un en br wi td : Int} {K : Int → St → Prop} (hlc : σ 11 0 4 = l) (hl : l < 300) (h4 : σ 50 4 l = 0) (h5 : σ 50 5 l = 0) (hce : ce ≤ 63) (hso : 0 ≤ so ∧ so ≤ 3) (hsz : 0 ≤ sz ∧ sz ≤ 3) (hun : 2 ≤ un ∧ un ≤ 6) (hen : 0 ≤ en ∧ en ≤ 60) (htp : ∀ i, i < 4 → 1 ≤ σ 33 0 i ∧ σ 33 0 i ≤ 3) (hm : 0 ≤ σ 3 0 6 ∧ σ 3 0 6 ≤ 63) (ht : σ 7 0 3 = td) (htd : 0 ≤ td ∧ td ≤ 3999) (ew : wdv (σ 33 0) so sz en = wi) (hw : 1 ≤ wi ∧ wi ≤ 32) (hru : inR (σ 11 0 12))
    (q : K (scv wi un (σ 11 0 12)) (newX σ l ce so un wi br (ftv ((l : Int) * 7 + ce) wi) td (S0 (reg5 ce so un wi td) % 65537) (S1 (reg5 ce so un wi td) % 65537) (td + Int.tdiv (apv ce (σ 3 0 6)) 4))) :
    σ 50 4 (Int.toNat (σ 11 0 4)) = 0 ∧ σ 50 5 (Int.toNat (σ 11 0 4)) = 0 ∧ ∀ σ_10 : St, σ_10 = st (sta σ 4 (Int.toNat (σ 11 0 4)) z0) 50 5 (Int.toNat (σ 11 0 4)) 1 → (wp_X3_wideAt σ_10 so sz en (fun r_12 σ_11 => wp_X4_init σ_11 (Int.toNat (σ 11 0 4)) (σ_10 11 0 4) ce so un r_12 br (fun σ_13 => σ_13 50 4 (Int.toNat (σ 11 0 4)) ≠ 0 ∧ wp_X4_comeOn σ_13 (Int.toNat (σ 11 0 4)) (σ_13 7 0 3) (fun σ_15 => 0 ≤ (σ_15 11 0 4) ∧ (σ_15 11 0 4) < 300 ∧ Int.toNat (σ_15 11 0 4) = (Int.toNat (σ 11 0 4)) ∧ σ_15 50 4 (Int.toNat (σ 11 0 4)) ≠ 0 ∧ ∀ σ_20 : St, σ_20 = st σ_15 77 0 (Int.toNat (σ 11 0 4)) 1 → (∀ σ_21 : St, σ_21 = st σ_20 11 0 4 ((σ_20 11 0 4) + 1) → (wp_X11_become σ_21 (Int.toNat (σ 11 0 4)) 0 (fun σ_22 => σ_22 50 4 (Int.toNat (σ 11 0 4)) ≠ 0 ∧ wp_X4_scaleBy σ_22 (Int.toNat (σ 11 0 4)) (σ_22 11 0 12) K))))))) := by
  rw [show Int.toNat (σ 11 0 4) = l by omega]
  refine ⟨h4, h5, fun A eA => ?_⟩
  have Ak : ∀ k, ¬ k = 4 → ¬ k = 50 → A k = σ k := fun k z1 z2 => by rw [eA, rs_ne z2, ra_ne z1]
  have A504 : A 50 4 l = 0 := by rw [eA, rs_nej (by decide), ra_ne (by decide)]; exact h4
  have A505 : A 50 5 l ≠ 0 := by rw [eA, rs_eq, up_eq]; decide
  refine sx_wideAt hso hsz (by rw [Ak 33 (by decide) (by decide)]; exact htp) hen ?_
  rw [Ak 33 (by decide) (by decide), ew, Ak 11 (by decide) (by decide), hlc]
  refine sx_init A504 A505 (by omega) (by omega) (by omega) ?_
  obtain ⟨B, eB⟩ : ∃ B : St, B = nwI A l ce so un wi br (ftv ((l : Int) * 7 + ce) wi) := ⟨_, rfl⟩
  rw [← eB]
  have Bk : ∀ k, ¬ k = 4 → ¬ k = 35 → ¬ k = 36 → ¬ k = 37 → ¬ k = 38 → ¬ k = 50 → B k = σ k := fun k z1 z2 z3 z4 z5 z6 => by
    rw [eB]
    unfold nwI
    simp only [rs_ne z1, rs_ne z6, ra_ne z2, ra_ne z3, ra_ne z4, ra_ne z5]
    exact Ak k z1 z6
  have B50 : B 50 4 l ≠ 0 := by
    rw [eB]
    unfold nwI
    rw [rs_eq, up_eq]
    decide
  have B4 : B 4 l 5 = ce ∧ B 4 l 0 = so ∧ B 4 l 1 = un ∧ B 4 l 2 = wi ∧ B 4 l 8 = -1 ∧ B 4 l 9 = 0 := by
    rw [eB]
    unfold nwI
    simp (decide := true) only [rs_ne, rs_eq, up_eq, up_ne, ra_ne, not_false_eq_true]
  refine ⟨B50, ?_⟩
  rw [Bk 7 (by decide) (by decide) (by decide) (by decide) (by decide) (by decide), ht]
  refine sx_comeOn B50 B4.1 B4.2.1 B4.2.2.1 B4.2.2.2.1 htd (by omega) hso (by omega) (by omega) ?_
  obtain ⟨C, eC⟩ : ∃ C : St, C = nwC B l td ce so un wi (S0 (reg5 ce so un wi td) % 65537) (S1 (reg5 ce so un wi td) % 65537) := ⟨_, rfl⟩
  rw [← eC]
  have Ck : ∀ k, ¬ k = 4 → ¬ k = 38 → C k = B k := fun k z1 z2 => by
    rw [eC]
    unfold nwC
    simp only [rs_ne z1, rs_ne z2]
  have C50 : C 50 4 l ≠ 0 := by rw [Ck 50 (by decide) (by decide)]; exact B50
  have C11 : C 11 = σ 11 := by rw [Ck 11 (by decide) (by decide), Bk 11 (by decide) (by decide) (by decide) (by decide) (by decide) (by decide)]
  have C4 : C 4 l 5 = ce ∧ C 4 l 1 = un ∧ C 4 l 2 = wi ∧ C 4 l 8 = -1 ∧ C 4 l 9 = 0 := by
    rw [eC]
    unfold nwC
    simp (decide := true) only [rs_ne, rs_eq, up_eq, up_ne, not_false_eq_true]
    exact ⟨B4.1, B4.2.2.1, B4.2.2.2.1, B4.2.2.2.2.1, B4.2.2.2.2.2⟩
  rw [C11, hlc]
  refine ⟨by omega, by omega, by omega, C50, fun D1 e1 D e2 => ?_⟩
  have D11 : D1 11 0 4 = (l : Int) := by rw [e1, rs_ne (by decide), C11, hlc]
  rw [D11] at e2
  have Dk : ∀ k, ¬ k = 11 → ¬ k = 77 → D k = C k := fun k z1 z2 => by rw [e2, rs_ne z1, e1, rs_ne z2]
  have D31 : D 31 = σ 31 := by rw [Dk 31 (by decide) (by decide), Ck 31 (by decide) (by decide), Bk 31 (by decide) (by decide) (by decide) (by decide) (by decide) (by decide)]
  have D3 : D 3 = σ 3 := by rw [Dk 3 (by decide) (by decide), Ck 3 (by decide) (by decide), Bk 3 (by decide) (by decide) (by decide) (by decide) (by decide) (by decide)]
  have D7 : D 7 = σ 7 := by rw [Dk 7 (by decide) (by decide), Ck 7 (by decide) (by decide), Bk 7 (by decide) (by decide) (by decide) (by decide) (by decide) (by decide)]
  have D4 : D 4 = C 4 := Dk 4 (by decide) (by decide)
  have D50 : D 50 = C 50 := Dk 50 (by decide) (by decide)
  refine sx_become (s := -1) (cell := ce) (c := 0) (td := td) (by rw [D50]; exact C50) (by rw [D4]; exact C4.2.2.2.1) ⟨by decide, by decide⟩ in0 (by rw [D4]; exact C4.1) hce (by rw [D4]; exact C4.2.2.2.2) (by decide) (by rw [D3]; exact hm) (by rw [D7]; exact ht) ?_
  rw [D31, D3, show σ 31 0 ce + (nil01 0 - nil01 (-1)) = σ 31 0 ce + 1 from rfl]
  have eF : bcx D l 0 ce (σ 31 0 ce + 1) 0 td (td + Int.tdiv (apv ce (σ 3 0 6)) 4) = newX σ l ce so un wi br (ftv ((l : Int) * 7 + ce) wi) td (S0 (reg5 ce so un wi td) % 65537) (S1 (reg5 ce so un wi td) % 65537) (td + Int.tdiv (apv ce (σ 3 0 6)) 4) := by
    rw [e2, e1, eC, eB, eA]
    rfl
  rw [eF]
  have n4 := newX_4 (σ := σ) (l := l) (ce := ce) (so := so) (un := un) (wi := wi) (br := br) (ft := ftv ((l : Int) * 7 + ce) wi) (td := td) (s0 := S0 (reg5 ce so un wi td) % 65537) (s1 := S1 (reg5 ce so un wi td) % 65537) (kd := td + Int.tdiv (apv ce (σ 3 0 6)) 4) rfl
  have n50 := (newX_50 (σ := σ) (l := l) (ce := ce) (so := so) (un := un) (wi := wi) (br := br) (ft := ftv ((l : Int) * 7 + ce) wi) (td := td) (s0 := S0 (reg5 ce so un wi td) % 65537) (s1 := S1 (reg5 ce so un wi td) % 65537) (kd := td + Int.tdiv (apv ce (σ 3 0 6)) 4)).1
  have n11 := (newX_11 (σ := σ) (l := l) (ce := ce) (so := so) (un := un) (wi := wi) (br := br) (ft := ftv ((l : Int) * 7 + ce) wi) (td := td) (s0 := S0 (reg5 ce so un wi td) % 65537) (s1 := S1 (reg5 ce so un wi td) % 65537) (kd := td + Int.tdiv (apv ce (σ 3 0 6)) 4)).1
  have r12 : ∀ S : St, S 11 0 = up (σ 11 0) 4 ((l : Int) + 1) → S 11 0 12 = σ 11 0 12 := fun S h => by rw [h, up_ne (by decide)]
  rw [r12 _ n11, n50, up_eq]
  refine ⟨by decide, sx_scaleBy hru (by rw [n50, up_eq]; decide) (by rw [n4.2.2.1]; exact hw.1) (by rw [n4.2.2.1]; exact hw.2) (by rw [n4.2.1]; exact hun.1) (by rw [n4.2.1]; exact hun.2) ?_⟩
  rw [n4.2.2.1, n4.2.1]
  exact q
