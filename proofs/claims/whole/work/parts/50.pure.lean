/-! the pure part: first calls -/
theorem wi_x {σ : St} {x a b : Int} {Q : Int → St → Prop} (hx : inR x) (ha : inR a) (hb : inR b) (q1 : a ≤ x → x ≤ b → Q 1 σ) (q0 : ¬ (a ≤ x ∧ x ≤ b) → Q 0 σ) : wp_X11_within σ x a b Q :=
  ⟨hx, ha, fun h => q0 (by omega), fun h => ⟨hx, hb, fun h2 => q0 (by omega), fun h2 => q1 (by omega) (by omega)⟩⟩
theorem wi_m {σ : St} {x a b : Int} {Q : Int → St → Prop} (hx : inR x) (ha : inR a) (hb : inR b) (q1 : a ≤ x → x ≤ b → Q 1 σ) (q0 : ¬ (a ≤ x ∧ x ≤ b) → Q 0 σ) : wp_X12_within σ x a b Q :=
  ⟨hx, ha, fun h => q0 (by omega), fun h => ⟨hx, hb, fun h2 => q0 (by omega), fun h2 => q1 (by omega) (by omega)⟩⟩
theorem inR_i {x : Int} (h1 : -2147483648 ≤ x) (h2 : x < 2147483648) : inR x := ⟨h1, h2⟩
