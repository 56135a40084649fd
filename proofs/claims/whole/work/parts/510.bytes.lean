/-! BYTES: what a shift and the mask 255 leave -/
theorem im_toN (x : Int) : ((Int32.ofInt x).toBitVec.toNat : Int) = x % 4294967296 := by
  show ((BitVec.ofInt 32 x).toNat : Int) = _
  rw [BitVec.toNat_ofInt]
  omega
theorem im_m255 (n : Nat) : n &&& 255 = n % 256 := by
  have h := Nat.and_two_pow_sub_one_eq_mod n 8
  exact h
/-- the low byte -/
theorem im_and255 (w : Int32) : (w &&& Int32.ofInt 255).toInt = ((w.toBitVec.toNat % 256 : Nat) : Int) := by
  have e1 : (w &&& Int32.ofInt 255).toBitVec.toNat = w.toBitVec.toNat % 256 := by
    show (w.toBitVec &&& (Int32.ofInt 255).toBitVec).toNat = _
    rw [BitVec.toNat_and]
    exact im_m255 _
  rw [← Int32.toInt_toBitVec, BitVec.toInt_eq_toNat_of_lt (by rw [e1]; omega), e1]
theorem im_byte (a : Int) : (Int32.ofInt a &&& Int32.ofInt 255).toInt = a % 256 := by
  rw [im_and255]
  have h := im_toN a
  omega
section IRB
variable {G : List im_D} {P : Nat → rm_M} {L : Nat} {ys : Nat → Int32} {d : Nat} {M : rm_M} {pc pc' : Nat} {lv : List (Nat × im_V)} {st : List im_V} {s : im_S} {Q : im_Re → Prop}
theorem ir_byte {x : Int} (hf : rm_find M.1 pc = some (.iand, 1)) (hp : pc + 1 = pc') (h : ir G P L ys d M (pc', lv, (0, x % 256) :: st, s) Q) : ir G P L ys d M (pc, lv, (0, 255) :: (0, x) :: st, s) Q :=
  ir_ii (f := fun x y => x &&& y) hf rfl rfl hp (im_byte x) h
/-- a logical shift down, told by its remainder of 2^32 -/
theorem im_ushr {x : Int} {y k : Nat} {m : Int} (hy : (Int32.ofInt (y : Int)).toUInt32 &&& Int32.toUInt32 31 = UInt32.ofNat k) (hk : k < 32) (hm : ((2 ^ k : Nat) : Int) = m) : (((Int32.ofInt x).toUInt32 >>> ((Int32.ofInt (y : Int)).toUInt32 &&& Int32.toUInt32 31)).toInt32.toBitVec.toNat : Int) = x % 4294967296 / m := by
  rw [hy, ← hm]
  show (((Int32.ofInt x).toUInt32 >>> UInt32.ofNat k).toNat : Int) = _
  rw [UInt32.toNat_shiftRight]
  have e : (UInt32.ofNat k).toNat = k := UInt32.toNat_ofNat_of_lt' (by show k < 4294967296; omega)
  rw [e, Nat.mod_eq_of_lt hk, Nat.shiftRight_eq_div_pow]
  have h : (((Int32.ofInt x).toUInt32).toNat : Int) = x % 4294967296 := im_toN x
  rw [Int.natCast_ediv, h]
end IRB
