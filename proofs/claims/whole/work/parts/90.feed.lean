/-! feed: a word is cut into bytes -/
theorem ishr_v {x : Int} (hx : inR x) {s : Nat} (hs : s = 0 ∨ s = 8 ∨ s = 16 ∨ s = 24) : i_ishr x s = x / 2 ^ s := by
  have e : (iv x >>> (iv (s : Int) &&& 31)).toInt = (iv x).toInt >>> s := by
    rw [← Int32.toInt_toBitVec, Int32.toBitVec_shiftRight, BitVec.sshiftRight_eq', BitVec.toInt_sshiftRight]
    rcases hs with rfl | rfl | rfl | rfl <;> rfl
  unfold i_ishr
  rw [e, iv_toInt hx, Int.shiftRight_eq_div_pow]
  rfl
theorem i2b_v {x : Int} (hx : inR x) : i_i2b x = x.bmod 256 := by
  unfold i_i2b
  rw [Int8.toInt_toInt32, Int32.toInt_toInt8, iv_toInt hx]
theorem byte_v {x : Int} (hx : inR x) {s : Nat} (hs : s = 0 ∨ s = 8 ∨ s = 16 ∨ s = 24) : i_iand (i_iushr x s) 255 = x % 4294967296 / 2 ^ s % 256 := by
  unfold i_iand i_iushr
  rw [iv_of]
  have eb : ((((iv x).toUInt32 >>> ((iv (s : Int)).toUInt32 &&& Int32.toUInt32 31)).toInt32) &&& iv 255).toBitVec = ((iv x).toBitVec >>> s) &&& 255#32 := by
    rcases hs with rfl | rfl | rfl | rfl <;> rfl
  have en : (((iv x).toBitVec >>> s) &&& 255#32).toNat = (iv x).toBitVec.toNat / 2 ^ s % 256 := by
    rw [BitVec.toNat_and, BitVec.toNat_ushiftRight, Nat.shiftRight_eq_div_pow]
    exact Nat.and_two_pow_sub_one_eq_mod _ 8
  have ex : ((iv x).toBitVec.toNat : Int) = x % 4294967296 := by
    show ((BitVec.ofInt 32 x).toNat : Int) = _
    rw [BitVec.toNat_ofInt]
    omega
  rw [← Int32.toInt_toBitVec, eb, BitVec.toInt_eq_toNat_of_lt (by rw [en]; omega), en]
  rcases hs with rfl | rfl | rfl | rfl <;> omega
theorem byte_law {x : Int} (hx : inR x) {s : Nat} (hs : s = 0 ∨ s = 8 ∨ s = 16 ∨ s = 24) {b : Int} (eb : b = i_iand (i_iushr x s) 255) : 0 ≤ b ∧ b ≤ 255 ∧ i_i2b (i_ishr x s) = if b < 128 then b else b - 256 := by
  rw [byte_v hx hs] at eb
  have hy : inR (x / 2 ^ s) := by
    obtain ⟨h1, h2⟩ := hx
    rcases hs with rfl | rfl | rfl | rfl <;> exact ⟨by omega, by omega⟩
  rw [ishr_v hx hs, i2b_v hy, Int.bmod_def]
  have em : x / 2 ^ s % 256 = b := by
    rw [eb]
    rcases hs with rfl | rfl | rfl | rfl <;> omega
  refine ⟨by omega, by omega, ?_⟩
  rw [show ((256 : Nat) : Int) = 256 from rfl, em]
  split <;> split <;> omega
