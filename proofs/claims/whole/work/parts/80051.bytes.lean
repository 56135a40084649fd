/-! bytes, as four on both sides takes them -/
def bB (x : Int) : Nat → Int
  | 0 => bt x 16777216
  | 1 => bt x 65536
  | 2 => bt x 256
  | _ => bt x 1
theorem andI_255 (x : Int) : andI x 255 = x % 256 := im_byte x
theorem ushI_b {x : Int} {y k : Nat} {m : Int} (hy : (Int32.ofInt (y : Int)).toUInt32 &&& Int32.toUInt32 31 = UInt32.ofNat k) (hk : k < 32) (hm : ((2 ^ k : Nat) : Int) = m) (h4 : m = 16777216 ∨ m = 65536 ∨ m = 256 ∨ m = 1) : andI (ushI x (y : Int)) 255 = bt x m := by
  rw [andI_255]
  unfold ushI i2
  dsimp only
  rw [im_mod, Int.natCast_emod, im_ushr (x := x) hy hk hm]
  exact bt_u h4
theorem byC (x : Int) {t : Nat} (h : t < 4) : andI (ushI x (24 - 8 * (t : Int))) 255 = bB x t := by
  match t, h with
  | 0, _ => exact ushI_b (y := 24) (k := 24) (by decide) (by decide) (by decide) (by decide)
  | 1, _ => exact ushI_b (y := 16) (k := 16) (by decide) (by decide) (by decide) (by decide)
  | 2, _ => exact ushI_b (y := 8) (k := 8) (by decide) (by decide) (by decide) (by decide)
  | 3, _ => exact ushI_b (y := 0) (k := 0) (by decide) (by decide) (by decide) (by decide)
theorem byR {x : Int} (hx : iR x) {t : Nat} (h : t < 4) : andI (shrI x (24 - 8 * (t : Int))) 255 = bB x t := by
  rw [andI_255]
  match t, h with
  | 0, _ => exact congrArg (· % 256) (im_shr32 (y := 24) (k := 24) (im_rng hx.1 hx.2) (by decide) (by decide))
  | 1, _ => exact congrArg (· % 256) (im_shr32 (y := 16) (k := 16) (im_rng hx.1 hx.2) (by decide) (by decide))
  | 2, _ => exact congrArg (· % 256) (im_shr32 (y := 8) (k := 8) (im_rng hx.1 hx.2) (by decide) (by decide))
  | 3, _ => exact congrArg (· % 256) (im_shr32 (y := 0) (k := 0) (im_rng hx.1 hx.2) (by decide) (by decide))
