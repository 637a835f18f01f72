/-! whole numbers: an int of the machine as the rest of a whole number -/
abbrev St : Type := Nat → Nat → Nat → Int
def iv (x : Int) : Int32 := Int32.ofInt x
def inR (x : Int) : Prop := -2147483648 ≤ x ∧ x < 2147483648
theorem iv_toInt {x : Int} (h : inR x) : (iv x).toInt = x := by
  unfold iv
  rw [Int32.toInt_ofInt]
  obtain ⟨h1, h2⟩ := h
  show x.bmod 4294967296 = x
  rw [Int.bmod_eq_of_le] <;> omega
theorem iv_of (x : Int32) : iv x.toInt = x := Int32.ofInt_toInt x
theorem inR_of (x : Int32) : inR x.toInt := ⟨Int32.le_toInt x, Int32.toInt_lt x⟩
theorem iv_ext {x y : Int} (h : x.bmod 4294967296 = y.bmod 4294967296) : iv x = iv y := by
  rw [← Int32.toInt_inj]
  show (Int32.ofInt x).toInt = (Int32.ofInt y).toInt
  rw [Int32.toInt_ofInt, Int32.toInt_ofInt]
  exact h
theorem iv_add (x y : Int) : iv x + iv y = iv (x + y) := by
  rw [← Int32.toInt_inj, Int32.toInt_add]
  show Int.bmod ((Int32.ofInt x).toInt + (Int32.ofInt y).toInt) _ = (Int32.ofInt (x + y)).toInt
  rw [Int32.toInt_ofInt, Int32.toInt_ofInt, Int32.toInt_ofInt]
  simp
theorem iv_sub (x y : Int) : iv x - iv y = iv (x - y) := by
  rw [← Int32.toInt_inj, Int32.toInt_sub]
  show Int.bmod ((Int32.ofInt x).toInt - (Int32.ofInt y).toInt) _ = (Int32.ofInt (x - y)).toInt
  rw [Int32.toInt_ofInt, Int32.toInt_ofInt, Int32.toInt_ofInt]
  simp
theorem iv_mul (x y : Int) : iv x * iv y = iv (x * y) := by
  rw [← Int32.toInt_inj, Int32.toInt_mul]
  show Int.bmod ((Int32.ofInt x).toInt * (Int32.ofInt y).toInt) _ = (Int32.ofInt (x * y)).toInt
  rw [Int32.toInt_ofInt, Int32.toInt_ofInt, Int32.toInt_ofInt]
  simp
theorem iv_neg (x : Int) : -(iv x) = iv (-x) := by
  rw [← Int32.toInt_inj, Int32.toInt_neg]
  show Int.bmod (-((Int32.ofInt x).toInt)) _ = (Int32.ofInt (-x)).toInt
  rw [Int32.toInt_ofInt, Int32.toInt_ofInt]
  simp
theorem iv_lt {x y : Int} (hx : inR x) (hy : inR y) : iv x < iv y ↔ x < y := by
  rw [Int32.lt_iff_toInt_lt, iv_toInt hx, iv_toInt hy]
theorem iv_le {x y : Int} (hx : inR x) (hy : inR y) : iv x ≤ iv y ↔ x ≤ y := by
  rw [Int32.le_iff_toInt_le, iv_toInt hx, iv_toInt hy]
theorem iv_eq {x y : Int} (hx : inR x) (hy : inR y) : iv x = iv y ↔ x = y := by
  rw [← Int32.toInt_inj, iv_toInt hx, iv_toInt hy]
theorem iv_in {x : Int} {n : Nat} (hn : n < 2147483648) (h0 : 0 ≤ x) (h : x < n) : vp_in (iv x) n := by
  rw [vp_in_iff, iv_toInt ⟨by omega, by omega⟩]
  exact ⟨h0, h⟩
theorem iv_clamp {x : Int} (h : inR x) : (iv x).toNatClampNeg = x.toNat := by
  show (iv x).toInt.toNat = x.toNat
  rw [iv_toInt h]
/-- the quotient, cut towards 0 -/
theorem iv_div {x y : Int} (hx : inR x) (hy : inR y) (h0 : ¬ (x = -2147483648 ∧ y = -1)) : iv x / iv y = iv (x.tdiv y) := by
  rw [← Int32.toInt_inj, Int32.toInt_div, iv_toInt hx, iv_toInt hy]
  show _ = (Int32.ofInt _).toInt
  rw [Int32.toInt_ofInt]
theorem iv_rem {x y : Int} (hx : inR x) (hy : inR y) (h0 : ¬ (x = -2147483648 ∧ y = -1)) : iv x - iv x / iv y * iv y = iv (x.tmod y) := by
  rw [iv_div hx hy h0, iv_mul, iv_sub]
  congr 1
  have := Int.mul_tdiv_add_tmod x y
  rw [Int.mul_comm] at this
  omega
theorem iv_ne0 {y : Int} (hy : inR y) (h : y ≠ 0) : ¬ iv y = 0 := by
  intro q
  have : iv y = iv 0 := q
  rw [iv_eq hy ⟨by omega, by omega⟩] at this
  exact h this
