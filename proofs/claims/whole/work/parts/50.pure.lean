/-! the pure part: first calls -/
theorem wi_x {σ : St} {x a b : Int} {Q : Int → St → Prop} (hx : inR x) (ha : inR a) (hb : inR b) (q1 : a ≤ x → x ≤ b → Q 1 σ) (q0 : ¬ (a ≤ x ∧ x ≤ b) → Q 0 σ) : wp_X11_within σ x a b Q :=
  ⟨hx, ha, fun h => q0 (by omega), fun h => ⟨hx, hb, fun h2 => q0 (by omega), fun h2 => q1 (by omega) (by omega)⟩⟩
theorem wi_m {σ : St} {x a b : Int} {Q : Int → St → Prop} (hx : inR x) (ha : inR a) (hb : inR b) (q1 : a ≤ x → x ≤ b → Q 1 σ) (q0 : ¬ (a ≤ x ∧ x ≤ b) → Q 0 σ) : wp_X12_within σ x a b Q :=
  ⟨hx, ha, fun h => q0 (by omega), fun h => ⟨hx, hb, fun h2 => q0 (by omega), fun h2 => q1 (by omega) (by omega)⟩⟩
theorem inR_i {x : Int} (h1 : -2147483648 ≤ x) (h2 : x < 2147483648) : inR x := ⟨h1, h2⟩

theorem sx_cell {σ : St} {x1 x2 : Int} {Q : Int → St → Prop} (h0 : inR x1) (h1 : inR x2) (q1 : 0 ≤ x1 → x1 ≤ 63 → 0 ≤ x2 → x2 ≤ 40 → Q 1 (st σ 28 0 (Int.toNat x1) x2)) (q0 : ¬ (0 ≤ x1 ∧ x1 ≤ 63 ∧ 0 ≤ x2 ∧ x2 ≤ 40) → Q (0) σ) : wp_X11_cell σ x1 x2 Q := by
  unfold wp_X11_cell wp_X11_isCell
  repeat' first
    | assumption
    | rfl
    | (exact Or.inl rfl)
    | (exact Or.inr rfl)
    | (exact ⟨by decide, by decide⟩)
    | apply wi_x
    | apply wi_m
    | apply And.intro
    | intro _
  all_goals subst_vars
  all_goals first
    | omega
    | (exfalso; omega)
    | (apply q1 <;> omega)
    | (apply q0; omega)
theorem sm_cell {σ : St} {x1 x2 : Int} {Q : Int → St → Prop} (h0 : inR x1) (h1 : inR x2) (q1 : 0 ≤ x1 → x1 ≤ 63 → 0 ≤ x2 → x2 ≤ 40 → Q 1 (st (st σ 12 0 0 0) 83 0 (Int.toNat x1) x2)) (q0 : ¬ (0 ≤ x1 ∧ x1 ≤ 63 ∧ 0 ≤ x2 ∧ x2 ≤ 40) → Q (0) (st σ 12 0 0 0)) : wp_X12_cell σ x1 x2 Q := by
  unfold wp_X12_cell wp_X12_isCell
  repeat' first
    | assumption
    | rfl
    | (exact Or.inl rfl)
    | (exact Or.inr rfl)
    | (exact ⟨by decide, by decide⟩)
    | apply wi_x
    | apply wi_m
    | apply And.intro
    | intro _
  all_goals subst_vars
  all_goals first
    | omega
    | (exfalso; omega)
    | (apply q1 <;> omega)
    | (apply q0; omega)
theorem sx_price {σ : St} {x1 x2 : Int} {Q : Int → St → Prop} (h0 : inR x1) (h1 : inR x2) (q1 : 2 ≤ x1 → x1 ≤ 6 → 0 ≤ x2 → x2 ≤ 99 → Q 1 (st σ 20 0 (Int.toNat x1) x2)) (q0 : ¬ (2 ≤ x1 ∧ x1 ≤ 6 ∧ 0 ≤ x2 ∧ x2 ≤ 99) → Q (0) σ) : wp_X11_price σ x1 x2 Q := by
  unfold wp_X11_price
  repeat' first
    | assumption
    | rfl
    | (exact Or.inl rfl)
    | (exact Or.inr rfl)
    | (exact ⟨by decide, by decide⟩)
    | apply wi_x
    | apply wi_m
    | apply And.intro
    | intro _
  all_goals subst_vars
  all_goals first
    | omega
    | (exfalso; omega)
    | (apply q1 <;> omega)
    | (apply q0; omega)
theorem sm_price {σ : St} {x1 x2 : Int} {Q : Int → St → Prop} (h0 : inR x1) (h1 : inR x2) (q1 : 2 ≤ x1 → x1 ≤ 6 → 0 ≤ x2 → x2 ≤ 99 → Q 1 (st (st σ 12 0 0 0) 92 0 (Int.toNat x1) x2)) (q0 : ¬ (2 ≤ x1 ∧ x1 ≤ 6 ∧ 0 ≤ x2 ∧ x2 ≤ 99) → Q (0) (st σ 12 0 0 0)) : wp_X12_price σ x1 x2 Q := by
  unfold wp_X12_price
  repeat' first
    | assumption
    | rfl
    | (exact Or.inl rfl)
    | (exact Or.inr rfl)
    | (exact ⟨by decide, by decide⟩)
    | apply wi_x
    | apply wi_m
    | apply And.intro
    | intro _
  all_goals subst_vars
  all_goals first
    | omega
    | (exfalso; omega)
    | (apply q1 <;> omega)
    | (apply q0; omega)
theorem sx_sort {σ : St} {x1 x2 x3 : Int} {Q : Int → St → Prop} (h0 : inR x1) (h1 : inR x2) (h2 : inR x3) (q1 : 0 ≤ x1 → x1 ≤ 3 → 0 ≤ x2 → x2 ≤ 100 → 1 ≤ x3 → x3 ≤ 3 → Q 1 (st (st σ 32 0 (Int.toNat x1) x2) 33 0 (Int.toNat x1) x3)) (q0 : ¬ (0 ≤ x1 ∧ x1 ≤ 3 ∧ 0 ≤ x2 ∧ x2 ≤ 100 ∧ 1 ≤ x3 ∧ x3 ≤ 3) → Q (0) σ) : wp_X11_sort σ x1 x2 x3 Q := by
  unfold wp_X11_sort
  repeat' first
    | assumption
    | rfl
    | (exact Or.inl rfl)
    | (exact Or.inr rfl)
    | (exact ⟨by decide, by decide⟩)
    | apply wi_x
    | apply wi_m
    | apply And.intro
    | intro _
  all_goals subst_vars
  all_goals first
    | omega
    | (exfalso; omega)
    | (apply q1 <;> omega)
    | (apply q0; omega)
theorem sm_sort {σ : St} {x1 x2 x3 : Int} {Q : Int → St → Prop} (h0 : inR x1) (h1 : inR x2) (h2 : inR x3) (q1 : 0 ≤ x1 → x1 ≤ 3 → 0 ≤ x2 → x2 ≤ 100 → 1 ≤ x3 → x3 ≤ 3 → Q 1 (st (st (st σ 12 0 0 0) 86 0 (Int.toNat x1) x2) 87 0 (Int.toNat x1) x3)) (q0 : ¬ (0 ≤ x1 ∧ x1 ≤ 3 ∧ 0 ≤ x2 ∧ x2 ≤ 100 ∧ 1 ≤ x3 ∧ x3 ≤ 3) → Q (0) (st σ 12 0 0 0)) : wp_X12_sort σ x1 x2 x3 Q := by
  unfold wp_X12_sort
  repeat' first
    | assumption
    | rfl
    | (exact Or.inl rfl)
    | (exact Or.inr rfl)
    | (exact ⟨by decide, by decide⟩)
    | apply wi_x
    | apply wi_m
    | apply And.intro
    | intro _
  all_goals subst_vars
  all_goals first
    | omega
    | (exfalso; omega)
    | (apply q1 <;> omega)
    | (apply q0; omega)
theorem sx_stand {σ : St} {x1 x2 x3 x4 : Int} {Q : Int → St → Prop} (h0 : inR x1) (h1 : inR x2) (h2 : inR x3) (h3 : inR x4) (q1 : 0 ≤ x1 → x1 ≤ 63 → 0 ≤ x2 → x2 ≤ 3 → 0 ≤ x3 → x3 ≤ 3 → 0 ≤ x4 → x4 ≤ 200 → Q 1 (st σ 30 0 (Int.toNat (((x1 * 16) + (x2 * 4)) + x3)) x4)) (q0 : ¬ (0 ≤ x1 ∧ x1 ≤ 63 ∧ 0 ≤ x2 ∧ x2 ≤ 3 ∧ 0 ≤ x3 ∧ x3 ≤ 3 ∧ 0 ≤ x4 ∧ x4 ≤ 200) → Q (0) σ) : wp_X11_stand σ x1 x2 x3 x4 Q := by
  unfold wp_X11_stand wp_X11_isCell wp_X11_isStem wp_X3_stemPlace
  repeat' first
    | assumption
    | rfl
    | (exact Or.inl rfl)
    | (exact Or.inr rfl)
    | (exact ⟨by decide, by decide⟩)
    | apply wi_x
    | apply wi_m
    | apply And.intro
    | intro _
  all_goals subst_vars
  all_goals first
    | omega
    | (exfalso; omega)
    | (apply q1 <;> omega)
    | (apply q0; omega)
theorem sm_stand {σ : St} {x1 x2 x3 x4 : Int} {Q : Int → St → Prop} (h0 : inR x1) (h1 : inR x2) (h2 : inR x3) (h3 : inR x4) (q1 : 0 ≤ x1 → x1 ≤ 63 → 0 ≤ x2 → x2 ≤ 3 → 0 ≤ x3 → x3 ≤ 3 → 0 ≤ x4 → x4 ≤ 200 → Q 1 (st (st σ 12 0 0 0) 85 0 (Int.toNat (((16 * x1) + (4 * x2)) + x3)) x4)) (q0 : ¬ (0 ≤ x1 ∧ x1 ≤ 63 ∧ 0 ≤ x2 ∧ x2 ≤ 3 ∧ 0 ≤ x3 ∧ x3 ≤ 3 ∧ 0 ≤ x4 ∧ x4 ≤ 200) → Q (0) (st σ 12 0 0 0)) : wp_X12_stand σ x1 x2 x3 x4 Q := by
  unfold wp_X12_stand wp_X12_isCell wp_X12_isStem wp_X12_stemAt
  repeat' first
    | assumption
    | rfl
    | (exact Or.inl rfl)
    | (exact Or.inr rfl)
    | (exact ⟨by decide, by decide⟩)
    | apply wi_x
    | apply wi_m
    | apply And.intro
    | intro _
  all_goals subst_vars
  all_goals first
    | omega
    | (exfalso; omega)
    | (apply q1 <;> omega)
    | (apply q0; omega)
theorem sx_lease {σ : St} {x1 : Int} {Q : Int → St → Prop} (h0 : inR x1) (q1 : 0 ≤ x1 → x1 ≤ 1 → Q 1 (st σ 11 0 12 x1)) (q0 : ¬ (0 ≤ x1 ∧ x1 ≤ 1) → Q (0) σ) : wp_X11_lease σ x1 Q := by
  unfold wp_X11_lease
  repeat' first
    | assumption
    | rfl
    | (exact Or.inl rfl)
    | (exact Or.inr rfl)
    | (exact ⟨by decide, by decide⟩)
    | apply wi_x
    | apply wi_m
    | apply And.intro
    | intro _
  all_goals subst_vars
  all_goals first
    | omega
    | (exfalso; omega)
    | (apply q1 <;> omega)
    | (apply q0; omega)
theorem sm_lease {σ : St} {x1 : Int} {Q : Int → St → Prop} (h0 : inR x1) (q1 : 0 ≤ x1 → x1 ≤ 1 → Q 1 (st (st σ 12 0 0 0) 12 0 66 x1)) (q0 : ¬ (0 ≤ x1 ∧ x1 ≤ 1) → Q (0) (st σ 12 0 0 0)) : wp_X12_lease σ x1 Q := by
  unfold wp_X12_lease
  repeat' first
    | assumption
    | rfl
    | (exact Or.inl rfl)
    | (exact Or.inr rfl)
    | (exact ⟨by decide, by decide⟩)
    | apply wi_x
    | apply wi_m
    | apply And.intro
    | intro _
  all_goals subst_vars
  all_goals first
    | omega
    | (exfalso; omega)
    | (apply q1 <;> omega)
    | (apply q0; omega)
theorem sx_asked {σ : St} {x1 x2 : Int} {Q : Int → St → Prop} (h0 : inR x1) (h1 : inR x2) (q1 : 0 ≤ x1 → x1 ≤ 3 → 0 ≤ x2 → Q 1 (st σ 42 0 (Int.toNat x1) x2)) (q0 : ¬ (0 ≤ x1 ∧ x1 ≤ 3 ∧ 0 ≤ x2) → Q (0) σ) : wp_X11_asked σ x1 x2 Q := by
  unfold wp_X11_asked
  repeat' first
    | assumption
    | rfl
    | (exact Or.inl rfl)
    | (exact Or.inr rfl)
    | (exact ⟨by decide, by decide⟩)
    | apply wi_x
    | apply wi_m
    | apply And.intro
    | intro _
  all_goals subst_vars
  all_goals first
    | omega
    | (exfalso; omega)
    | (apply q1 <;> omega)
    | (apply q0; omega)
theorem sm_asked {σ : St} {x1 x2 : Int} {Q : Int → St → Prop} (h0 : inR x1) (h1 : inR x2) (q1 : 0 ≤ x1 → x1 ≤ 3 → 0 ≤ x2 → Q 1 (st (st σ 12 0 0 0) 145 0 (Int.toNat x1) x2)) (q0 : ¬ (0 ≤ x1 ∧ x1 ≤ 3 ∧ 0 ≤ x2) → Q (0) (st σ 12 0 0 0)) : wp_X12_asked σ x1 x2 Q := by
  unfold wp_X12_asked
  repeat' first
    | assumption
    | rfl
    | (exact Or.inl rfl)
    | (exact Or.inr rfl)
    | (exact ⟨by decide, by decide⟩)
    | apply wi_x
    | apply wi_m
    | apply And.intro
    | intro _
  all_goals subst_vars
  all_goals first
    | omega
    | (exfalso; omega)
    | (apply q1 <;> omega)
    | (apply q0; omega)
theorem sx_iron {σ : St} {x1 : Int} {Q : Int → St → Prop} (h0 : inR x1) (hs : 0 ≤ σ 11 0 7) (hs2 : σ 11 0 7 ≤ 6000) (q1 : 0 ≤ x1 → x1 ≤ 500 → σ 11 0 7 + x1 ≤ 5000 → Q (σ 11 0 7 + x1) (st σ 11 0 7 (σ 11 0 7 + x1))) (q0 : ¬ (0 ≤ x1 ∧ x1 ≤ 500 ∧ σ 11 0 7 + x1 ≤ 5000) → Q (-1) σ) : wp_X11_iron σ x1 Q := by
  unfold wp_X11_iron
  repeat' first
    | assumption
    | rfl
    | (exact Or.inl rfl)
    | (exact Or.inr rfl)
    | (exact ⟨by decide, by decide⟩)
    | apply wi_x
    | apply wi_m
    | apply And.intro
    | intro _
  all_goals subst_vars
  all_goals first
    | omega
    | (exfalso; omega)
    | (apply q1 <;> omega)
    | (apply q0; omega)
theorem sx_mill {σ : St} {x1 : Int} {Q : Int → St → Prop} (h0 : inR x1) (hs : 0 ≤ σ 11 0 4) (hs2 : σ 11 0 4 ≤ 300) (q1 : 0 ≤ x1 → x1 ≤ 63 → σ 11 0 4 = 0 → Q 1 (st σ 3 0 6 x1)) (q0 : ¬ (0 ≤ x1 ∧ x1 ≤ 63 ∧ σ 11 0 4 = 0) → Q 0 σ) : wp_X11_mill σ x1 Q := by
  unfold wp_X11_mill wp_X11_isCell
  repeat' first
    | assumption
    | rfl
    | (exact Or.inl rfl)
    | (exact Or.inr rfl)
    | (exact ⟨by decide, by decide⟩)
    | apply wi_x
    | apply wi_m
    | apply And.intro
    | intro _
  all_goals subst_vars
  all_goals first
    | omega
    | (exfalso; omega)
    | (apply q1 <;> omega)
    | (apply q0; omega)
