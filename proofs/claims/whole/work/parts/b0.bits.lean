/-! sets as numbers -/
theorem shl1 {k : Nat} (h : k ≤ 9) : i_ishl 1 (k : Int) = ((2 ^ k : Nat) : Int) := by
  rcases (show k = 0 ∨ k = 1 ∨ k = 2 ∨ k = 3 ∨ k = 4 ∨ k = 5 ∨ k = 6 ∨ k = 7 ∨ k = 8 ∨ k = 9 by omega) with rfl | rfl | rfl | rfl | rfl | rfl | rfl | rfl | rfl | rfl <;> decide
theorem nx_shr {x k : Nat} (hx : x < 512) (hk : k < 9) : nI x >>> (nI k &&& 31) = nI (x >>> k) := by
  have ek : (nI k &&& 31) = nI k := by
    rcases (show k = 0 ∨ k = 1 ∨ k = 2 ∨ k = 3 ∨ k = 4 ∨ k = 5 ∨ k = 6 ∨ k = 7 ∨ k = 8 by omega) with rfl | rfl | rfl | rfl | rfl | rfl | rfl | rfl | rfl <;> decide
  rw [ek]
  apply Int32.toBitVec_inj.1
  have es : (nI k).toBitVec.smod 32 = BitVec.ofNat 32 k := by
    rcases (show k = 0 ∨ k = 1 ∨ k = 2 ∨ k = 3 ∨ k = 4 ∨ k = 5 ∨ k = 6 ∨ k = 7 ∨ k = 8 by omega) with rfl | rfl | rfl | rfl | rfl | rfl | rfl | rfl | rfl <;> decide
  show (nI x).toBitVec.sshiftRight' ((nI k).toBitVec.smod 32) = BitVec.ofNat 32 (x >>> k)
  rw [es]
  show (BitVec.ofNat 32 x).sshiftRight (BitVec.ofNat 32 k).toNat = BitVec.ofNat 32 (x >>> k)
  have e2 : (BitVec.ofNat 32 k).toNat = k := by
    rw [BitVec.toNat_ofNat]
    omega
  have hm : (BitVec.ofNat 32 x).msb = false := by
    rw [BitVec.msb_eq_false_iff_two_mul_lt, BitVec.toNat_ofNat]
    omega
  rw [e2, BitVec.sshiftRight_eq_of_msb_false hm]
  apply BitVec.eq_of_toNat_eq
  rw [BitVec.toNat_ushiftRight, BitVec.toNat_ofNat, BitVec.toNat_ofNat, Nat.mod_eq_of_lt (by omega), Nat.mod_eq_of_lt]
  have : x >>> k ≤ x := by rw [Nat.shiftRight_eq_div_pow]; exact Nat.div_le_self _ _
  omega
theorem bit_test {x k : Nat} (hx : x < 512) (hk : k < 9) : i_iand (i_ishr (x : Int) (k : Int)) 1 = if Nat.testBit x k then 1 else 0 := by
  have h1 : x >>> k ≤ x := by rw [Nat.shiftRight_eq_div_pow]; exact Nat.div_le_self _ _
  have e1 : i_ishr (x : Int) (k : Int) = ((x >>> k : Nat) : Int) := by
    unfold i_ishr
    rw [iv_nat, iv_nat, nx_shr hx hk, nI_toInt (by omega)]
  have e2 := (and_n (a := x >>> k) (b := 1) (by omega)).1
  rw [e1]
  have e3 : ((1 : Nat) : Int) = 1 := rfl
  rw [e3] at e2
  rw [e2, Nat.testBit]
  have e4 : 1 &&& x >>> k = x >>> k &&& 1 := Nat.and_comm _ _
  rw [e4]
  have b : x >>> k &&& 1 ≤ 1 := Nat.and_le_right
  rcases (show x >>> k &&& 1 = 0 ∨ x >>> k &&& 1 = 1 by omega) with h | h <;> rw [h] <;> rfl
def dif (x b : Nat) : Nat := x &&& (4294967295 - b)
theorem dif_bit {x b k : Nat} (hb : b < 512) (hk : k < 32) : Nat.testBit (dif x b) k = (Nat.testBit x k && !Nat.testBit b k) := by
  unfold dif
  have e : 4294967295 - b = 2 ^ 32 - (b + 1) := by omega
  rw [Nat.testBit_and, e, Nat.testBit_two_pow_sub_succ (by omega)]
  simp [hk]
theorem dif_le {x b : Nat} : dif x b ≤ x := Nat.and_le_left
theorem dif_i {x b : Nat} (hx : x < 512) (hb : b < 512) : i_iand (x : Int) (i_ixor (b : Int) (-1)) = (dif x b : Nat) := by
  have e1 : iv (i_ixor (b : Int) (-1)) = nI (4294967295 - b) := by
    unfold i_ixor
    rw [iv_of]
    have e2 : iv (-1) = nI 4294967295 := by decide
    rw [e2, iv_nat, nx_xor]
    congr 1
    have e : 4294967295 - b = 2 ^ 32 - (b + 1) := by omega
    rw [e]
    apply Nat.eq_of_testBit_eq
    intro i
    have e3 : (4294967295 : Nat) = 2 ^ 32 - 1 := by decide
    rw [Nat.testBit_xor, e3, Nat.testBit_two_pow_sub_one, Nat.testBit_two_pow_sub_succ (by omega)]
    by_cases hi : i < 32
    · simp [hi]
    · have : Nat.testBit b i = false := Nat.testBit_lt_two_pow (Nat.lt_of_lt_of_le (show b < 2 ^ 32 by omega) (Nat.pow_le_pow_right (by decide) (by omega)))
      simp [hi, this]
  unfold i_iand
  have hl := dif_le (x := x) (b := b)
  rw [e1, iv_nat, nx_and]
  exact nI_toInt (by unfold dif at hl; omega)
theorem bit_and {x i : Nat} (hx : x < 512) (hi : i < 9) : (i_iand (x : Int) ((2 ^ i : Nat) : Int) = 0 ↔ Nat.testBit x i = false) ∧ inR (i_iand (x : Int) ((2 ^ i : Nat) : Int)) := by
  have e := and_n (a := x) (b := 2 ^ i) (by omega)
  rw [e.1]
  refine ⟨?_, ⟨by omega, by omega⟩⟩
  have d : ∀ i, i < 9 → ∀ x, x < 512 → (x &&& 2 ^ i = 0 ↔ Nat.testBit x i = false) := by decide +kernel
  rw [← d i hi x hx]
  exact ⟨fun z => by omega, fun z => by omega⟩
theorem bit_or {x i : Nat} (hx : x < 512) (hi : i < 9) (hb : Nat.testBit x i = false) : i_ior (x : Int) ((2 ^ i : Nat) : Int) = ((x + 2 ^ i : Nat) : Int) := by
  have e := (or_n (a := x) (b := 2 ^ i) (m := 9) hx (Nat.pow_lt_pow_right (by decide) hi) (by decide)).1
  rw [e]
  congr 1
  have d : ∀ i, i < 9 → ∀ x, x < 512 → Nat.testBit x i = false → x ||| 2 ^ i = x + 2 ^ i := by decide +kernel
  exact d i hi x hx hb
theorem bit_add {x i : Nat} (hx : x < 512) (hi : i < 9) (hb : Nat.testBit x i = false) : (∀ k, Nat.testBit (x + 2 ^ i) k = if k = i then true else Nat.testBit x k) := by
  intro k
  have d : ∀ i, i < 9 → ∀ x, x < 512 → Nat.testBit x i = false → x + 2 ^ i = x ||| 2 ^ i := by decide +kernel
  rw [d i hi x hx hb, Nat.testBit_or, Nat.testBit_two_pow]
  by_cases e : k = i
  · simp [e]
  · have e' : ¬ i = k := fun z => e z.symm
    simp [e, e']
def bcn (x0 : Int) : Int :=
  let v1 := x0 - i_iand (i_iushr x0 1) 1431655765
  let v2 := i_iand v1 858993459 + i_iand (i_iushr v1 2) 858993459
  let v3 := i_iand (v2 + i_iushr v2 4) 252645135
  let v4 := v3 + i_iushr v3 8
  let v5 := v4 + i_iushr v4 16
  i_iand v5 63
theorem bcn_b (x : Int) : 0 ≤ bcn x ∧ bcn x ≤ 63 := by
  have g : ∀ y : Int, 0 ≤ i_iand y 63 ∧ i_iand y 63 ≤ 63 := by
    intro y
    have e : i_iand y 63 = i_iand ((63 : Nat) : Int) y := by
      unfold i_iand
      rw [Int32.and_comm]
      rfl
    rw [e]
    have e2 : iv y = nI (iv y).toBitVec.toNat := by
      apply Int32.toBitVec_inj.1
      show (iv y).toBitVec = BitVec.ofNat 32 _
      rw [BitVec.ofNat_toNat, BitVec.setWidth_eq]
    unfold i_iand
    rw [e2, iv_nat, nx_and]
    have l : 63 &&& (iv y).toBitVec.toNat ≤ 63 := Nat.and_le_left
    rw [nI_toInt (by omega)]
    omega
  exact g _
theorem sx_bc {σ : St} {x : Int} {Q : Int → St → Prop} (q : Q (bcn x) σ) : wp_J6_bitCount_0f7a4 σ x Q := by
  intro v1 e1 v2 e2 v3 e3 v4 e4 v5 e5
  subst e1 e2 e3 e4 e5
  exact q
