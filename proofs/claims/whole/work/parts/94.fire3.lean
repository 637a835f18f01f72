/-! fire: the class -/
def bes (a d : Nat) : Int := if d = 0 then (if a % 8 < 7 then (a : Int) + 1 else -1) else if d = 1 then (if 0 < a % 8 then (a : Int) - 1 else -1) else if d = 2 then (if a / 8 < 7 then (a : Int) + 8 else -1) else (if 0 < a / 8 then (a : Int) - 8 else -1)
theorem four {d : Nat} (h : d < 4) : d = 0 ∨ d = 1 ∨ d = 2 ∨ d = 3 := by omega
theorem bes_b {a d : Nat} (ha : a < 64) : -1 ≤ bes a d ∧ bes a d < 64 := by
  unfold bes
  split
  · split <;> omega
  · split
    · split <;> omega
    · split
      · split <;> omega
      · split <;> omega
theorem bes_v {a b d : Nat} (hd : d < 4) (e : bes a d = b) : (d = 0 ∧ a % 8 < 7 ∧ b = a + 1) ∨ (d = 1 ∧ 0 < a % 8 ∧ b + 1 = a) ∨ (d = 2 ∧ a / 8 < 7 ∧ b = a + 8) ∨ (d = 3 ∧ 0 < a / 8 ∧ b + 8 = a) := by
  unfold bes at e
  split at e
  · split at e <;> omega
  · split at e
    · split at e <;> omega
    · split at e
      · split at e <;> omega
      · split at e <;> omega
theorem bes_ap {a b d : Nat} (ha : a < 64) (hd : d < 4) (e : bes a d = b) : apv a b = 1 := by
  have v := bes_v hd e
  unfold apv
  rcases v with v | v | v | v <;> omega
theorem wa_v (w : Int) (a b : Nat) : (w = 0 → wa w a b = (b : Int) % 8 - (a : Int) % 8) ∧ (w = 1 → wa w a b = (a : Int) % 8 - (b : Int) % 8) ∧ (w = 2 → wa w a b = (b : Int) / 8 - (a : Int) / 8) ∧ (w = 3 → wa w a b = (a : Int) / 8 - (b : Int) / 8) := by
  unfold wa
  refine ⟨fun h => ?_, fun h => ?_, fun h => ?_, fun h => ?_⟩
  · rw [if_pos h]
  · rw [if_neg (by omega), if_pos h]
    omega
  · rw [if_neg (by omega), if_neg (by omega), if_pos h]
  · rw [if_neg (by omega), if_neg (by omega), if_neg (by omega)]
    omega
theorem ap_bes {a b : Nat} (ha : a < 64) (hb : b < 64) (h : apv a b = 1) : ∃ d, d < 4 ∧ bes a d = b := by
  unfold apv at h
  by_cases c0 : b = a + 1
  · refine ⟨0, by decide, ?_⟩
    show (if a % 8 < 7 then (a : Int) + 1 else -1) = b
    rw [if_pos (by omega)]
    omega
  by_cases c1 : b + 1 = a
  · refine ⟨1, by decide, ?_⟩
    show (if 0 < a % 8 then (a : Int) - 1 else -1) = b
    rw [if_pos (by omega)]
    omega
  by_cases c2 : b = a + 8
  · refine ⟨2, by decide, ?_⟩
    show (if a / 8 < 7 then (a : Int) + 8 else -1) = b
    rw [if_pos (by omega)]
    omega
  · refine ⟨3, by decide, ?_⟩
    show (if 0 < a / 8 then (a : Int) - 8 else -1) = b
    have c3 : b + 8 = a := by omega
    rw [if_pos (by omega)]
    omega
theorem sx_beside {σ : St} {a d : Nat} {Q : Int → St → Prop} (ha : a < 64) (hd : d < 4) (q : Q (bes a d) σ) : wp_X3_beside σ a d Q := by
  unfold bes at q
  unfold wp_X3_beside
  rw [tmn (show (0 : Int) ≤ a by omega), tdn (show (0 : Int) ≤ a by omega)]
  refine ⟨⟨by omega, by omega⟩, fun v1 e1 => ⟨⟨by omega, by omega⟩, fun v2 e2 => ⟨⟨by omega, by omega⟩, fun c => ⟨⟨by omega, by omega⟩, fun y => ?_, fun y => ?_⟩, fun c => ⟨⟨by omega, by omega⟩, fun y => ?_, fun y => ?_⟩, fun c => ⟨⟨by omega, by omega⟩, fun y => ?_, fun y => ?_⟩, fun c => ⟨⟨by omega, by omega⟩, fun y => ?_, fun y => ?_⟩⟩⟩⟩
  · rw [if_pos (by omega), if_neg (by omega)] at q
    exact q
  · rw [if_pos (by omega), if_pos (by omega)] at q
    exact q
  · rw [if_neg (by omega), if_pos (by omega), if_neg (by omega)] at q
    exact q
  · rw [if_neg (by omega), if_pos (by omega), if_pos (by omega)] at q
    exact q
  · rw [if_neg (by omega), if_neg (by omega), if_pos (by omega), if_neg (by omega)] at q
    exact q
  · rw [if_neg (by omega), if_neg (by omega), if_pos (by omega), if_pos (by omega)] at q
    exact q
  · rw [if_neg (by omega), if_neg (by omega), if_neg (by omega), if_neg (by omega)] at q
    exact q
  · rw [if_neg (by omega), if_neg (by omega), if_neg (by omega), if_pos (by omega)] at q
    exact q
theorem x1_v {w : Int} (hw : 0 ≤ w ∧ w ≤ 3) : (w = 0 → i_ixor w 1 = 1) ∧ (w = 1 → i_ixor w 1 = 0) ∧ (w = 2 → i_ixor w 1 = 3) ∧ (w = 3 → i_ixor w 1 = 2) :=
  ⟨fun e => by rw [e]; rfl, fun e => by rw [e]; rfl, fun e => by rw [e]; rfl, fun e => by rw [e]; rfl⟩
theorem sx_windAid {σ : St} {a b d : Nat} {w : Int} {Q : Int → St → Prop} (ha : a < 64) (hd : d < 4) (hw : 0 ≤ w ∧ w ≤ 3) (e : bes a d = b) (q : Q (8 * wa w a b) σ) : wp_X3_windAid σ d w Q := by
  obtain ⟨x0, x1, x2, x3⟩ := x1_v hw
  have xb : inR (i_ixor w 1) := by
    have : w = 0 ∨ w = 1 ∨ w = 2 ∨ w = 3 := by omega
    rcases this with h | h | h | h
    · rw [x0 h]; exact in1
    · rw [x1 h]; exact in0
    · rw [x2 h]; exact ⟨by decide, by decide⟩
    · rw [x3 h]; exact ⟨by decide, by decide⟩
  have go : ∀ v : Int, v = 8 * wa w a b → Q v σ := fun v ev => by rw [ev]; exact q
  have v := bes_v hd e
  obtain ⟨y0, y1, y2, y3⟩ := wa_v w a b
  have w4 : w = 0 ∨ w = 1 ∨ w = 2 ∨ w = 3 := by omega
  refine ⟨⟨by omega, by omega⟩, ⟨by omega, by omega⟩, fun c => ⟨⟨by omega, by omega⟩, xb, fun y => go _ ?_, fun y => go _ ?_⟩, fun c => go _ ?_⟩
  all_goals rcases w4 with h | h | h | h <;> rcases v with v | v | v | v <;> omega
