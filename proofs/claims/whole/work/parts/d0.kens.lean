/-! a text's tokens -/
noncomputable def cif {α : Type} (c : Prop) (a b : α) : α := @ite α c (Classical.propDecidable c) a b
theorem cif_p {α : Type} {c : Prop} {a b : α} (h : c) : cif c a b = a := if_pos h
theorem cif_n {α : Type} {c : Prop} {a b : α} (h : ¬ c) : cif c a b = b := if_neg h
noncomputable def scn (P : Nat → Prop) (z : Nat) : Nat → Nat → Nat
  | 0, p => p
  | f + 1, p => cif (p < z ∧ P p) (scn P z f (p + 1)) p
noncomputable def scz (P : Nat → Prop) (z p : Nat) : Nat := scn P z (z - p) p
theorem scz_go {P : Nat → Prop} {z p : Nat} (h1 : p < z) (h2 : P p) : scz P z p = scz P z (p + 1) := by
  unfold scz
  rw [show z - p = (z - (p + 1)) + 1 by omega]
  show cif (p < z ∧ P p) (scn P z (z - (p + 1)) (p + 1)) p = _
  rw [cif_p ⟨h1, h2⟩]
theorem scz_stop {P : Nat → Prop} {z p : Nat} (h : ¬ (p < z ∧ P p)) : scz P z p = p := by
  unfold scz
  cases e : z - p with
  | zero => rfl
  | succ f =>
    show cif (p < z ∧ P p) (scn P z f (p + 1)) p = p
    rw [cif_n h]
theorem scn_b {P : Nat → Prop} {z : Nat} : ∀ f p, p + f ≤ z → p ≤ scn P z f p ∧ scn P z f p ≤ z := by
  intro f
  induction f with
  | zero => intro p h; exact ⟨Nat.le_refl _, h⟩
  | succ f ih =>
    intro p h
    show p ≤ cif (p < z ∧ P p) (scn P z f (p + 1)) p ∧ cif (p < z ∧ P p) (scn P z f (p + 1)) p ≤ z
    by_cases c : p < z ∧ P p
    · rw [cif_p c]
      have := ih (p + 1) (by omega)
      omega
    · rw [cif_n c]
      omega
theorem scz_b {P : Nat → Prop} {z p : Nat} (h : p ≤ z) : p ≤ scz P z p ∧ scz P z p ≤ z := scn_b (z - p) p (by omega)
def isB (b : Nat → Int) (i : Nat) : Prop := b i = 32 ∨ b i = 10
def isL (b : Nat → Int) (i : Nat) : Prop := 97 ≤ b i ∧ b i ≤ 122
def isD (b : Nat → Int) (i : Nat) : Prop := 48 ≤ b i ∧ b i ≤ 57
def sgv (x : Int) : Int := if x = 60 then 0 else if x = 61 then 1 else if x = 62 then 2 else if x = 59 then 3 else -1
noncomputable def tkF (b : Nat → Int) (z p : Nat) : Nat := scz (isB b) z p
noncomputable def kdF (b : Nat → Int) (z q : Nat) : Int := cif (z ≤ q) 0 (cif (isL b q) 1 (cif (isD b q) (cif (scz (isD b) z q ≤ q + 4) 2 4) (cif (sgv (b q) = -1) 4 3)))
noncomputable def toF (b : Nat → Int) (z q : Nat) : Nat := cif (z ≤ q) q (cif (isL b q) (scz (isL b) z q) (cif (isD b q) (scz (isD b) z q) (q + 1)))
noncomputable def tkK (b : Nat → Int) (z p : Nat) : Int := kdF b z (tkF b z p)
noncomputable def tkT (b : Nat → Int) (z p : Nat) : Nat := toF b z (tkF b z p)
/-- what is known of a token's places -/
theorem tk_b {b : Nat → Int} {z p : Nat} (h : p ≤ z) : p ≤ tkF b z p ∧ tkF b z p ≤ tkT b z p ∧ tkT b z p ≤ z ∧ (tkK b z p = 0 → tkF b z p = z) ∧ (¬ tkK b z p = 0 → tkF b z p < z ∧ tkF b z p < tkT b z p) ∧ (tkK b z p = 2 → tkT b z p ≤ tkF b z p + 4) ∧ 0 ≤ tkK b z p ∧ tkK b z p ≤ 4 := by
  have a := scz_b (P := isB b) h
  unfold tkK tkT
  have e : tkF b z p = scz (isB b) z p := rfl
  rw [← e] at a
  obtain ⟨q, eq⟩ : ∃ q, q = tkF b z p := ⟨_, rfl⟩
  rw [← eq] at a ⊢
  unfold kdF toF
  by_cases c0 : z ≤ q
  · rw [cif_p c0, cif_p c0]
    exact ⟨by omega, by omega, by omega, fun _ => by omega, fun z => absurd rfl z, fun z => absurd z (by decide), by decide, by decide⟩
  · rw [cif_n c0, cif_n c0]
    by_cases c1 : isL b q
    · have s := scz_b (P := isL b) (z := z) (p := q + 1) (by omega)
      rw [cif_p c1, cif_p c1, scz_go (by omega) c1]
      exact ⟨by omega, by omega, by omega, fun z => absurd z (by decide), fun _ => by omega, fun z => absurd z (by decide), by decide, by decide⟩
    · rw [cif_n c1, cif_n c1]
      by_cases c2 : isD b q
      · have s := scz_b (P := isD b) (z := z) (p := q + 1) (by omega)
        rw [cif_p c2, cif_p c2, scz_go (by omega) c2]
        by_cases c3 : scz (isD b) z (q + 1) ≤ q + 4
        · rw [cif_p c3]
          exact ⟨by omega, by omega, by omega, fun z => absurd z (by decide), fun _ => by omega, fun _ => c3, by decide, by decide⟩
        · rw [cif_n c3]
          exact ⟨by omega, by omega, by omega, fun z => absurd z (by decide), fun _ => by omega, fun z => absurd z (by decide), by decide, by decide⟩
      · rw [cif_n c2, cif_n c2]
        by_cases c3 : sgv (b q) = -1
        · rw [cif_p c3]
          exact ⟨by omega, by omega, by omega, fun z => absurd z (by decide), fun _ => by omega, fun z => absurd z (by decide), by decide, by decide⟩
        · rw [cif_n c3]
          exact ⟨by omega, by omega, by omega, fun z => absurd z (by decide), fun _ => by omega, fun z => absurd z (by decide), by decide, by decide⟩
/-! strings -/
theorem sj_len {σ : St} {j : Nat} {Q : Int → St → Prop} (hj : j < 27) (q : Q (slen j) σ) : wp_J0_length_8abf5 σ j Q := by
  unfold wp_J0_length_8abf5 wp_J0_coder_7d493
  have d : ∀ j, j < 27 → i_ishr (slen j) 0 = slen j := by decide +kernel
  refine ⟨hj, hj, hj, fun z => absurd z (by decide), fun _ => ⟨hj, ?_⟩⟩
  dsimp only
  rw [d j hj]
  exact q
theorem sbyt_d : ∀ j, j < 27 → ∀ k, k < 67 → i_i2c (i_iand (sbyt j k) 255) = sbyt j k ∧ 0 ≤ sbyt j k ∧ sbyt j k < 128 := by decide +kernel
theorem slen_d : ∀ j, j < 27 → 0 ≤ slen j ∧ slen j ≤ 67 := by decide +kernel
theorem sj_char {σ : St} {j k : Nat} {x : Int} {Q : Int → St → Prop} (hj : j < 27) (hx : x = (k : Int)) (hk : (k : Int) < slen j) (q : Q (sbyt j k) σ) : wp_J0_charAt_5068e σ j x Q := by
  have sl := slen_d j hj
  obtain ⟨d1, d2, d3⟩ := sbyt_d j hj k (by omega)
  unfold wp_J0_charAt_5068e wp_J0_isLatin1_aae02 wp_J1_charAt_3b067 wp_J0_checkIndex_df160 wp_J3_checkIndex_8e157 wp_J3_checkIndex_8e157n
  rw [hx, Int.toNat_natCast, d1]
  refine ⟨hj, fun z => absurd z (by decide), fun _ => ⟨hj, fun z => absurd rfl z, fun _ => ⟨in1, fun z => absurd z (by decide), fun _ => ⟨hj, hj, ?_⟩⟩⟩⟩
  have g : ∀ R : Prop, R → inR (k : Int) ∧ ((k : Int) < 0 → False) ∧ (¬ (k : Int) < 0 → inR (k : Int) ∧ inR (slen j) ∧ ((k : Int) < slen j → R) ∧ (¬ (k : Int) < slen j → False)) := fun R r => ⟨⟨by omega, by omega⟩, fun z => absurd z (by omega), fun _ => ⟨⟨by omega, by omega⟩, ⟨by omega, by omega⟩, fun _ => r, fun z => absurd hk z⟩⟩
  exact ⟨g _ ⟨hj, by omega, hk, by omega, by omega, by omega, by omega, q⟩, g _ ⟨hj, by omega, hk, by omega, by omega, by omega, by omega, q⟩⟩
theorem i2c_b {x : Int} (h : 0 ≤ x ∧ x ≤ 255) : i_i2c x = x := by
  have d : ∀ k, k < 256 → i_i2c ((k : Nat) : Int) = k := by decide +kernel
  have := d x.toNat (by omega)
  rw [Int.toNat_of_nonneg h.1] at this
  exact this
theorem i2b_b {x : Int} (h : 0 ≤ x ∧ x ≤ 255) : i_i2b x = if x < 128 then x else x - 256 := by
  have d : ∀ k, k < 256 → i_i2b ((k : Nat) : Int) = if ((k : Nat) : Int) < 128 then ((k : Nat) : Int) else ((k : Nat) : Int) - 256 := by decide +kernel
  have := d x.toNat (by omega)
  rw [Int.toNat_of_nonneg h.1] at this
  exact this
theorem sj_sign {σ : St} {x : Int} {Q : Int → St → Prop} (hx : 0 ≤ x ∧ x ≤ 255) (q : Q (sgv x) σ) : wp_J0_indexOf_0f7a4 σ 0 (i_i2c x) Q := by
  rw [i2c_b hx]
  have l4 : slen 0 = 4 := by decide
  have vb : -128 ≤ (if x < 128 then x else x - 256) ∧ (if x < 128 then x else x - 256) ≤ 127 := by split <;> omega
  have s0 : sbyt 0 0 = 60 := by decide
  have s1 : sbyt 0 1 = 61 := by decide
  have s2 : sbyt 0 2 = 62 := by decide
  have s3 : sbyt 0 3 = 59 := by decide
  have key : ∀ c : Int, 0 ≤ c → c < 128 → (c = (if x < 128 then x else x - 256) ↔ x = c) := fun c h1 h2 => by
    by_cases y : x < 128
    · rw [if_pos y]
      exact ⟨fun z => z.symm, fun z => z.symm⟩
    · rw [if_neg y]
      exact ⟨fun z => by omega, fun z => by omega⟩
  have lp : wp_J1_indexOfChar_4cfef_7 Q 5 σ 0 4 (if x < 128 then x else x - 256) 0 := by
    unfold sgv at q
    generalize hv : (if x < 128 then x else x - 256) = v at key vb ⊢
    refine ⟨in0, ⟨by decide, by decide⟩, fun z => absurd z (by decide), fun _ => ⟨by decide, by decide, by rw [l4]; decide, ?_⟩⟩
    rw [show Int.toNat 0 = 0 from rfl, s0]
    refine ⟨⟨by decide, by decide⟩, ⟨by omega, by omega⟩, fun n0 => ?_, fun y0 => ?_⟩
    · have m0 : ¬ x = 60 := fun z => n0 ((key 60 (by decide) (by decide)).2 z)
      rw [if_neg m0] at q
      refine ⟨⟨by decide, by decide⟩, ⟨by decide, by decide⟩, fun z => absurd z (by decide), fun _ => ⟨by decide, by decide, by rw [l4]; decide, ?_⟩⟩
      rw [show Int.toNat (0 + 1) = 1 from rfl, s1]
      refine ⟨⟨by decide, by decide⟩, ⟨by omega, by omega⟩, fun n1 => ?_, fun y1 => ?_⟩
      · have m1 : ¬ x = 61 := fun z => n1 ((key 61 (by decide) (by decide)).2 z)
        rw [if_neg m1] at q
        refine ⟨⟨by decide, by decide⟩, ⟨by decide, by decide⟩, fun z => absurd z (by decide), fun _ => ⟨by decide, by decide, by rw [l4]; decide, ?_⟩⟩
        rw [show Int.toNat (0 + 1 + 1) = 2 from rfl, s2]
        refine ⟨⟨by decide, by decide⟩, ⟨by omega, by omega⟩, fun n2 => ?_, fun y2 => ?_⟩
        · have m2 : ¬ x = 62 := fun z => n2 ((key 62 (by decide) (by decide)).2 z)
          rw [if_neg m2] at q
          refine ⟨⟨by decide, by decide⟩, ⟨by decide, by decide⟩, fun z => absurd z (by decide), fun _ => ⟨by decide, by decide, by rw [l4]; decide, ?_⟩⟩
          rw [show Int.toNat (0 + 1 + 1 + 1) = 3 from rfl, s3]
          refine ⟨⟨by decide, by decide⟩, ⟨by omega, by omega⟩, fun n3 => ?_, fun y3 => ?_⟩
          · have m3 : ¬ x = 59 := fun z => n3 ((key 59 (by decide) (by decide)).2 z)
            rw [if_neg m3] at q
            exact ⟨⟨by decide, by decide⟩, ⟨by decide, by decide⟩, fun _ => q, fun z => absurd (by decide) z⟩
          · rw [if_pos ((key 59 (by decide) (by decide)).1 y3)] at q
            exact q
        · rw [if_pos ((key 62 (by decide) (by decide)).1 y2)] at q
          exact q
      · rw [if_pos ((key 61 (by decide) (by decide)).1 y1)] at q
        exact q
    · rw [if_pos ((key 60 (by decide) (by decide)).1 y0)] at q
      exact q
  unfold wp_J0_indexOf_0f7a4 wp_J0_indexOf_7cf53 wp_J0_isLatin1_aae02
  refine ⟨by decide, by decide, fun z => absurd z (by decide), fun _ => ⟨by decide, fun z => absurd rfl z, fun _ => ⟨in1, fun z => absurd z (by decide), fun _ => ⟨by decide, by decide, sj_len (by decide) ?_⟩⟩⟩⟩
  unfold wp_J1_indexOf_4cfef wp_J1_canEncode_9a6ad
  refine ⟨⟨by omega, by omega⟩, fun z => absurd z (by omega), fun _ => ⟨⟨by omega, by omega⟩, fun z => absurd z (by omega), fun _ => ⟨in1, fun _ => ?_, fun z => absurd z (by decide)⟩⟩⟩
  refine j_max in0 in0 ⟨by decide, j_min (by rw [l4]; exact ⟨by decide, by decide⟩) (by rw [l4]; exact ⟨by decide, by decide⟩) ?_⟩
  rw [l4, show max (0 : Int) 0 = 0 from rfl, show min (4 : Int) 4 = 4 from rfl]
  refine ⟨in0, ⟨by decide, by decide⟩, fun _ v ev => ⟨5, ?_⟩, fun z => absurd (by decide) z⟩
  rw [ev, i2b_b hx]
  exact lp
