/-! whole numbers: an int of the machine as the rest of a whole number -/
abbrev St : Type := Nat → Nat → Nat → Int
def iv (x : Int) : Int32 := Int32.ofInt x
def inR (x : Int) : Prop := -2147483648 ≤ x ∧ x < 2147483648
theorem iv_toInt {x : Int} (h : inR x) : (iv x).toInt = x := by
  unfold iv
  rw [Int32.toInt_ofInt]
  obtain ⟨h1, h2⟩ := h
  show x.bmod 4294967296 = x
  rw [Int.bmod_eq_of_le] <;> omega
theorem iv_of (x : Int32) : iv x.toInt = x := Int32.ofInt_toInt x
theorem inR_of (x : Int32) : inR x.toInt := ⟨Int32.le_toInt x, Int32.toInt_lt x⟩
theorem iv_ext {x y : Int} (h : x.bmod 4294967296 = y.bmod 4294967296) : iv x = iv y := by
  rw [← Int32.toInt_inj]
  show (Int32.ofInt x).toInt = (Int32.ofInt y).toInt
  rw [Int32.toInt_ofInt, Int32.toInt_ofInt]
  exact h
theorem iv_add (x y : Int) : iv x + iv y = iv (x + y) := by
  rw [← Int32.toInt_inj, Int32.toInt_add]
  show Int.bmod ((Int32.ofInt x).toInt + (Int32.ofInt y).toInt) _ = (Int32.ofInt (x + y)).toInt
  rw [Int32.toInt_ofInt, Int32.toInt_ofInt, Int32.toInt_ofInt]
  simp
theorem iv_sub (x y : Int) : iv x - iv y = iv (x - y) := by
  rw [← Int32.toInt_inj, Int32.toInt_sub]
  show Int.bmod ((Int32.ofInt x).toInt - (Int32.ofInt y).toInt) _ = (Int32.ofInt (x - y)).toInt
  rw [Int32.toInt_ofInt, Int32.toInt_ofInt, Int32.toInt_ofInt]
  simp
theorem iv_mul (x y : Int) : iv x * iv y = iv (x * y) := by
  rw [← Int32.toInt_inj, Int32.toInt_mul]
  show Int.bmod ((Int32.ofInt x).toInt * (Int32.ofInt y).toInt) _ = (Int32.ofInt (x * y)).toInt
  rw [Int32.toInt_ofInt, Int32.toInt_ofInt, Int32.toInt_ofInt]
  simp
theorem iv_neg (x : Int) : -(iv x) = iv (-x) := by
  rw [← Int32.toInt_inj, Int32.toInt_neg]
  show Int.bmod (-((Int32.ofInt x).toInt)) _ = (Int32.ofInt (-x)).toInt
  rw [Int32.toInt_ofInt, Int32.toInt_ofInt]
  simp
theorem iv_lt {x y : Int} (hx : inR x) (hy : inR y) : iv x < iv y ↔ x < y := by
  rw [Int32.lt_iff_toInt_lt, iv_toInt hx, iv_toInt hy]
theorem iv_le {x y : Int} (hx : inR x) (hy : inR y) : iv x ≤ iv y ↔ x ≤ y := by
  rw [Int32.le_iff_toInt_le, iv_toInt hx, iv_toInt hy]
theorem iv_eq {x y : Int} (hx : inR x) (hy : inR y) : iv x = iv y ↔ x = y := by
  rw [← Int32.toInt_inj, iv_toInt hx, iv_toInt hy]
theorem iv_in {x : Int} {n : Nat} (hn : n < 2147483648) (h0 : 0 ≤ x) (h : x < n) : vp_in (iv x) n := by
  rw [vp_in_iff, iv_toInt ⟨by omega, by omega⟩]
  exact ⟨h0, h⟩
theorem iv_clamp {x : Int} (h : inR x) : (iv x).toNatClampNeg = x.toNat := by
  show (iv x).toInt.toNat = x.toNat
  rw [iv_toInt h]
/-- the quotient, cut towards 0 -/
theorem iv_div {x y : Int} (hx : inR x) (hy : inR y) (h0 : ¬ (x = -2147483648 ∧ y = -1)) : iv x / iv y = iv (x.tdiv y) := by
  rw [← Int32.toInt_inj, Int32.toInt_div, iv_toInt hx, iv_toInt hy]
  show _ = (Int32.ofInt _).toInt
  rw [Int32.toInt_ofInt]
theorem iv_rem {x y : Int} (hx : inR x) (hy : inR y) (h0 : ¬ (x = -2147483648 ∧ y = -1)) : iv x - iv x / iv y * iv y = iv (x.tmod y) := by
  rw [iv_div hx hy h0, iv_mul, iv_sub]
  congr 1
  have := Int.mul_tdiv_add_tmod x y
  rw [Int.mul_comm] at this
  omega
theorem iv_ne0 {y : Int} (hy : inR y) (h : y ≠ 0) : ¬ iv y = 0 := by
  intro q
  have : iv y = iv 0 := q
  rw [iv_eq hy ⟨by omega, by omega⟩] at this
  exact h this
/-! the words that pictures of methods are made of -/
def up (f : Nat → Int) (i : Nat) (v : Int) : Nat → Int := fun j => if j = i then v else f j
def st (σ : St) (k j i : Nat) (v : Int) : St := fun k' j' => if k' = k ∧ j' = j then up (σ k j) i v else σ k' j'
def strL : List Nat := [4, 19, 14, 2, 3, 67, 3, 3, 3, 6, 4, 3, 5, 4, 4, 6, 4, 5, 6, 3, 4, 5, 3, 3, 5, 4, 3]
def strB : List (List Int32) := [[60, 61, 62, 59], [98, 97, 114, 32, 112, 97, 121, 32, 99, 114, 101, 100, 105, 116, 32, 114, 101, 110, 116], [99, 117, 116, 32, 99, 97, 114, 114, 121, 32, 102, 105, 114, 101], [105, 102], [110, 111, 116], [99, 101, 108, 108, 32, 104, 101, 105, 103, 104, 116, 32, 115, 111, 114, 116, 32, 99, 108, 97, 115, 115, 32, 115, 101, 97, 115, 111, 110, 32, 100, 97, 121, 32, 115, 110, 111, 119, 32, 119, 97, 116, 101, 114, 32, 100, 114, 121, 32, 102, 97, 114, 32, 115, 108, 97, 115, 104, 32, 99, 114, 101, 119, 32, 119, 97, 121], [97, 110, 100], [98, 97, 114], [112, 97, 121], [99, 114, 101, 100, 105, 116], [114, 101, 110, 116], [99, 117, 116], [99, 97, 114, 114, 121], [102, 105, 114, 101], [99, 101, 108, 108], [104, 101, 105, 103, 104, 116], [115, 111, 114, 116], [99, 108, 97, 115, 115], [115, 101, 97, 115, 111, 110], [100, 97, 121], [115, 110, 111, 119], [119, 97, 116, 101, 114], [100, 114, 121], [102, 97, 114], [115, 108, 97, 115, 104], [99, 114, 101, 119], [119, 97, 121]]
def slen (i : Nat) : Int := ((strL.getD i 0 : Nat) : Int)
def sbyt (i k : Nat) : Int := ((strB.getD i []).getD k 0).toInt
def i_iand (x y : Int) : Int := (iv x &&& iv y).toInt
def i_ior (x y : Int) : Int := (iv x ||| iv y).toInt
def i_ixor (x y : Int) : Int := (iv x ^^^ iv y).toInt
def i_ishl (x y : Int) : Int := (iv x <<< (iv y &&& 31)).toInt
def i_ishr (x y : Int) : Int := (iv x >>> (iv y &&& 31)).toInt
def i_iushr (x y : Int) : Int := (((iv x).toUInt32 >>> ((iv y).toUInt32 &&& Int32.toUInt32 31)).toInt32).toInt
def i_i2b (x : Int) : Int := ((iv x).toInt8.toInt32).toInt
def i_i2s (x : Int) : Int := ((iv x).toInt16.toInt32).toInt
def i_i2c (x : Int) : Int := (((iv x).toUInt32 % 65536).toInt32).toInt
def sta (σ : St) (k j : Nat) (g : Nat → Int) : St := fun k' j' => if k' = k ∧ j' = j then g else σ k' j'
def cpf (f g : Nat → Int) (n : Nat) : Nat → Int := fun i => if i < n then f i else g i
def tbI (l : List Int) (x : Int) : Int := l.getD x.toNat 0
def z0 : Nat → Int := fun _ => 0
/-- a whole number as the machine's int has it -/
def i_wr (x : Int) : Int := (iv x).toInt
theorem iv_wr (x : Int) : iv (i_wr x) = iv x := iv_of (iv x)
theorem wr_in (x : Int) : inR (i_wr x) := inR_of (iv x)
theorem wr_id {x : Int} (h : inR x) : i_wr x = x := iv_toInt h
