/-! BITS: what the operations on limbs give -/
theorem im_toN64 (x : Int) : ((Int64.ofInt x).toBitVec.toNat : Int) = x % 18446744073709551616 := by
  show ((BitVec.ofInt 64 x).toNat : Int) = _
  rw [BitVec.toNat_ofInt]
  omega
theorem w32_mod (x : Int) : w32 x % 4294967296 = x % 4294967296 := by
  unfold w32
  rw [Int32.toInt_ofInt]
  exact Int.bmod_emod
theorem w64_mod (x : Int) : w64 x % 18446744073709551616 = x % 18446744073709551616 := by
  unfold w64
  rw [Int64.toInt_ofInt]
  exact Int.bmod_emod
theorem to64_lt {z : Int64} {n : Nat} (h : z.toBitVec.toNat = n) (hn : n < 9223372036854775808) : z.toInt = (n : Int) := by
  rw [← Int64.toInt_toBitVec, BitVec.toInt_eq_toNat_of_lt (by rw [h]; omega), h]
theorem to32_lt {z : Int32} {n : Nat} (h : z.toBitVec.toNat = n) (hn : n < 2147483648) : z.toInt = (n : Int) := by
  rw [← Int32.toInt_toBitVec, BitVec.toInt_eq_toNat_of_lt (by rw [h]; omega), h]
theorem andJ_mask (x : Int) : andJ x 4294967295 = x % 4294967296 := by
  have e1 : (Int64.ofInt x &&& Int64.ofInt 4294967295).toBitVec.toNat = (Int64.ofInt x).toBitVec.toNat % 4294967296 := by
    show ((Int64.ofInt x).toBitVec &&& (Int64.ofInt 4294967295).toBitVec).toNat = _
    rw [BitVec.toNat_and]
    exact Nat.and_two_pow_sub_one_eq_mod _ 32
  have e2 := to64_lt e1 (by omega)
  show (Int64.ofInt x &&& Int64.ofInt 4294967295).toInt = _
  rw [e2]
  have h := im_toN64 x
  omega
theorem andI_31 (x : Int) : andI x 31 = x % 32 := by
  have e1 : (Int32.ofInt x &&& Int32.ofInt 31).toBitVec.toNat = (Int32.ofInt x).toBitVec.toNat % 32 := by
    show ((Int32.ofInt x).toBitVec &&& (Int32.ofInt 31).toBitVec).toNat = _
    rw [BitVec.toNat_and]
    exact Nat.and_two_pow_sub_one_eq_mod _ 5
  have e2 := to32_lt e1 (by omega)
  show (Int32.ofInt x &&& Int32.ofInt 31).toInt = _
  rw [e2]
  have h := im_toN x
  omega
theorem andI_1 (x : Int) : andI x 1 = x % 2 := by
  have e1 : (Int32.ofInt x &&& Int32.ofInt 1).toBitVec.toNat = (Int32.ofInt x).toBitVec.toNat % 2 := by
    show ((Int32.ofInt x).toBitVec &&& (Int32.ofInt 1).toBitVec).toNat = _
    rw [BitVec.toNat_and]
    exact Nat.and_two_pow_sub_one_eq_mod _ 1
  have e2 := to32_lt e1 (by omega)
  show (Int32.ofInt x &&& Int32.ofInt 1).toInt = _
  rw [e2]
  have h := im_toN x
  omega
theorem sh_amount : ∀ k : Nat, k < 64 → ((Int32.ofInt (k : Int)).toInt64 &&& 63).toBitVec.toNat = k := by decide +kernel
theorem sh_amountU : ∀ k : Nat, k < 64 → ((Int32.ofInt (k : Int)).toInt64.toUInt64 &&& Int64.toUInt64 63) = UInt64.ofNat k := by decide +kernel
theorem ushJ_eq {x : Int} {k : Nat} (hk : k < 64) (h0 : 0 < k) : ushJ x (k : Int) = (x % 18446744073709551616) / 2 ^ k := by
  show (((Int64.ofInt x).toUInt64 >>> ((Int32.ofInt (k : Int)).toInt64.toUInt64 &&& Int64.toUInt64 63)).toInt64).toInt = _
  rw [sh_amountU k hk]
  have e : (UInt64.ofNat k).toNat = k := UInt64.toNat_ofNat_of_lt' (by show k < 18446744073709551616; omega)
  have e1 : (((Int64.ofInt x).toUInt64 >>> UInt64.ofNat k).toInt64).toBitVec.toNat = (Int64.ofInt x).toBitVec.toNat / 2 ^ k := by
    show ((Int64.ofInt x).toUInt64 >>> UInt64.ofNat k).toNat = _
    rw [UInt64.toNat_shiftRight, e, Nat.mod_eq_of_lt hk, Nat.shiftRight_eq_div_pow]
    rfl
  have hlt : (Int64.ofInt x).toBitVec.toNat / 2 ^ k < 9223372036854775808 := by
    have h1 : (Int64.ofInt x).toBitVec.toNat < 18446744073709551616 := (Int64.ofInt x).toBitVec.isLt
    have h2 : (2 : Nat) ^ 1 ≤ 2 ^ k := Nat.pow_le_pow_right (by decide) h0
    have h3 : (Int64.ofInt x).toBitVec.toNat / 2 ^ k ≤ (Int64.ofInt x).toBitVec.toNat / 2 ^ 1 := Nat.div_le_div_left h2 (by decide)
    omega
  rw [to64_lt e1 hlt, Int.natCast_ediv, im_toN64]
  rw [Int.natCast_pow]
  rfl
theorem ushJ_32 (x : Int) : ushJ x 32 = (x % 18446744073709551616) / 4294967296 := ushJ_eq (k := 32) (by decide) (by decide)
theorem shlJ_eq {x : Int} {k : Nat} (hk : k < 64) : shlJ x (k : Int) = w64 (x * 2 ^ k) := by
  show (Int64.ofInt x <<< ((Int32.ofInt (k : Int)).toInt64 &&& 63)).toInt = (Int64.ofInt (x * 2 ^ k)).toInt
  congr 1
  apply Int64.toBitVec_inj.mp
  rw [Int64.toBitVec_shiftLeft]
  have e := sh_amount k hk
  have e2 : (((Int32.ofInt (k : Int)).toInt64 &&& 63).toBitVec.smod 64) = BitVec.ofNat 64 k := by
    have : ∀ k : Nat, k < 64 → (((Int32.ofInt (k : Int)).toInt64 &&& 63).toBitVec.smod 64) = BitVec.ofNat 64 k := by decide +kernel
    exact this k hk
  rw [e2]
  show BitVec.ofInt 64 x <<< BitVec.ofNat 64 k = BitVec.ofInt 64 (x * 2 ^ k)
  apply BitVec.eq_of_toNat_eq
  rw [BitVec.shiftLeft_eq', BitVec.toNat_shiftLeft, BitVec.toNat_ofInt, BitVec.toNat_ofInt, BitVec.toNat_ofNat, Nat.mod_eq_of_lt (show k < 2 ^ 64 by omega), Nat.shiftLeft_eq]
  have h1 : 0 ≤ x % ((2 ^ 64 : Nat) : Int) := Int.emod_nonneg _ (by decide)
  apply Int.ofNat.inj
  show (((x % ((2 ^ 64 : Nat) : Int)).toNat * 2 ^ k % 2 ^ 64 : Nat) : Int) = (((x * 2 ^ k) % ((2 ^ 64 : Nat) : Int)).toNat : Int)
  rw [Int.toNat_of_nonneg (Int.emod_nonneg _ (by decide)), Int.natCast_emod, Int.natCast_mul, Int.toNat_of_nonneg h1, Int.natCast_pow]
  rw [Int.mul_emod, Int.emod_emod, ← Int.mul_emod]
  rfl
theorem orJ_eq {x y : Int} (hx : x % 4294967296 = 0) (h0 : 0 ≤ y) (h1 : y < 4294967296) : orJ x y = w64 (x + y) := by
  show (Int64.ofInt x ||| Int64.ofInt y).toInt = (Int64.ofInt (x + y)).toInt
  congr 1
  apply Int64.toBitVec_inj.mp
  apply BitVec.eq_of_toNat_eq
  show ((Int64.ofInt x).toBitVec ||| (Int64.ofInt y).toBitVec).toNat = _
  rw [BitVec.toNat_or]
  have e1 := im_toN64 x
  have e2 := im_toN64 y
  have e3 := im_toN64 (x + y)
  generalize (Int64.ofInt x).toBitVec.toNat = X at *
  generalize (Int64.ofInt y).toBitVec.toNat = Y at *
  generalize (Int64.ofInt (x + y)).toBitVec.toNat = Z at *
  have hq : X = 2 ^ 32 * (X / 4294967296) := by omega
  have hY : Y < 2 ^ 32 := by omega
  have h := Nat.two_pow_add_eq_or_of_lt hY (X / 4294967296)
  rw [← hq] at h
  omega
theorem xorI_not (x : Int) : xorI x (-1) % 4294967296 = (-1 - x) % 4294967296 := by
  have e1 : (Int32.ofInt x ^^^ Int32.ofInt (-1)).toBitVec.toNat = 4294967295 - (Int32.ofInt x).toBitVec.toNat := by
    show ((Int32.ofInt x).toBitVec ^^^ (Int32.ofInt (-1)).toBitVec).toNat = _
    have : (Int32.ofInt (-1)).toBitVec = BitVec.allOnes 32 := by decide
    rw [this, BitVec.xor_allOnes, BitVec.toNat_not]
  show (Int32.ofInt x ^^^ Int32.ofInt (-1)).toInt % 4294967296 = _
  rw [← Int32.toInt_toBitVec, BitVec.toInt_eq_toNat_bmod, e1]
  have h := im_toN x
  have h2 : (Int32.ofInt x).toBitVec.toNat < 4294967296 := (Int32.ofInt x).toBitVec.isLt
  have e : Int.bmod ((4294967295 - (Int32.ofInt x).toBitVec.toNat : Nat) : Int) (2 ^ 32) % 4294967296 = ((4294967295 - (Int32.ofInt x).toBitVec.toNat : Nat) : Int) % 4294967296 := Int.bmod_emod
  rw [e]
  omega
theorem shrI_5 {x : Int} (h : iR x) : shrI x 5 = x / 32 := im_shr32 (y := 5) (k := 5) (im_rng h.1 h.2) (by decide) (by decide)
theorem shrI_1 {x : Int} (h : iR x) : shrI x 1 = x / 2 := im_shr32 (y := 1) (k := 1) (im_rng h.1 h.2) (by decide) (by decide)
theorem shrJ_32 {x : Int} (h : lR x) : shrJ x 32 = x / 4294967296 := im_shr64 (y := 32) (k := 32) (im_rngJ h.1 h.2) (by decide) (by decide)
