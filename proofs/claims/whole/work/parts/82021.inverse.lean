/-! floorMod and inverse of the class, by value -/
theorem xorJ_s {x y : Int} (hx : lR x) (hy : lR y) : (0 ≤ xorJ x y) ↔ ((0 ≤ x) ↔ (0 ≤ y)) := by
  have nn : ∀ w : Int64, 0 ≤ w.toInt ↔ w.toBitVec.msb = false := fun w => by
    rw [← Int64.toInt_toBitVec]
    have := BitVec.toInt_neg_iff (x := w.toBitVec)
    rw [BitVec.msb_eq_toInt]
    simp
  have ex : (Int64.ofInt x).toInt = x := w64_id hx.1 hx.2
  have ey : (Int64.ofInt y).toInt = y := w64_id hy.1 hy.2
  have e : xorJ x y = (Int64.ofInt x ^^^ Int64.ofInt y).toInt := rfl
  have e2 : (Int64.ofInt x ^^^ Int64.ofInt y).toBitVec = (Int64.ofInt x).toBitVec ^^^ (Int64.ofInt y).toBitVec := rfl
  rw [e, nn, e2, BitVec.msb_xor]
  have hx' := nn (Int64.ofInt x)
  have hy' := nn (Int64.ofInt y)
  rw [ex] at hx'
  rw [ey] at hy'
  rw [hx', hy']
  cases (Int64.ofInt x).toBitVec.msb <;> cases (Int64.ofInt y).toBitVec.msb <;> simp
theorem floorMod_v {x y : Int} {s : im_S} {Q : Int → im_S → Prop} (hx : lR x) (hx2 : x ≠ -9223372036854775808) (y0 : 0 < y) (hy : lR y) (hQ : Q (x % y) s) : C_J9_floorMod_f86c9 x y s Q := by
  have er := remJ_eq hx hy hx2
  have xs := xorJ_s hx hy
  have em := Int.emod_nonneg x (show y ≠ 0 by omega)
  have el := Int.emod_lt_of_pos x y0
  refine ⟨fun c => ?_, fun c => ⟨fun z => ?_, fun z => ?_⟩⟩
  · have x0 : 0 ≤ x := (xs.1 c).2 (by omega)
    show Q (remJ x y) s
    rw [er, Int.tmod_eq_emod_of_nonneg x0]
    exact hQ
  · have x0 : x < 0 := Int.not_le.1 fun q => c (xs.2 ⟨fun _ => by omega, fun _ => q⟩)
    show Q (remJ x y) s
    rw [z]
    rw [er] at z
    have : x % y = 0 := Int.emod_eq_zero_of_dvd (Int.dvd_of_tmod_eq_zero z)
    rw [← this]
    exact hQ
  · have x0 : x < 0 := Int.not_le.1 fun q => c (xs.2 ⟨fun _ => by omega, fun _ => q⟩)
    have e : remJ x y + y = x % y := by
      rw [er] at z ⊢
      have nd : ¬ y ∣ x := fun q => z (Int.tmod_eq_zero_of_dvd q)
      have := Int.tmod_eq_emod (a := x) (b := y)
      rw [if_neg (fun q => by rcases q with q | q; omega; exact nd q)] at this
      rw [this]
      omega
    rw [e, w64_id (by omega) (by have := hy.2; omega)]
    exact hQ
theorem andJ_1 (x : Int) : andJ x 1 = x % 2 := by
  have e1 : (Int64.ofInt x &&& Int64.ofInt 1).toBitVec.toNat = (Int64.ofInt x).toBitVec.toNat % 2 := by
    show ((Int64.ofInt x).toBitVec &&& (Int64.ofInt 1).toBitVec).toNat = _
    rw [BitVec.toNat_and]
    exact Nat.and_two_pow_sub_one_eq_mod _ 1
  have e2 := to64_lt e1 (by omega)
  show (Int64.ofInt x &&& Int64.ofInt 1).toInt = _
  rw [e2]
  have h := im_toN64 x
  omega
theorem shrJ_1 {x : Int} (h : lR x) : shrJ x 1 = x / 2 := im_shr64 (y := 1) (k := 1) (im_rngJ h.1 h.2) (by decide) (by decide)
/-- squaring and halving -/
theorem inverse_v {v p : Int} {s : im_S} {Q : Int → im_S → Prop} (hp : prz p) (hv0 : 0 ≤ v) (hv1 : v < p) (hQ : ∀ z, 0 ≤ z → z < p → (p ∣ z - v ^ (p - 2).toNat) → Q z s) : C_inverse2 v p s Q := by
  have p1 := hp.1
  have p2 := hp.2
  have rem : ∀ x : Int, 0 ≤ x → x ≤ 4611686018427387904 → remJ (w64 x) p = x % p := fun x x0 x1 => by
    rw [w64_id (by omega) (by omega), remJ_eq ⟨by omega, by omega⟩ ⟨by omega, by omega⟩ (by omega), Int.tmod_eq_emod_of_nonneg x0]
  have rem0 : remJ v p = v := by
    rw [remJ_eq ⟨by omega, by omega⟩ ⟨by omega, by omega⟩ (by omega), Int.tmod_eq_emod_of_nonneg hv0]
    exact Int.emod_eq_of_lt hv0 hv1
  have mulb : ∀ a b : Int, 0 ≤ a → a < p → 0 ≤ b → b < p → 0 ≤ a * b ∧ a * b ≤ 4611686018427387904 := fun a b a0 a1 b0 b1 => by
    have m := Int.mul_nonneg a0 b0
    have m2 : a * b ≤ 2147483647 * 2147483647 := Int.le_trans (Int.mul_le_mul_of_nonneg_right (show a ≤ 2147483647 by omega) b0) (Int.mul_le_mul_of_nonneg_left (show b ≤ 2147483647 by omega) (by decide))
    omega
  have md : ∀ a : Int, p ∣ a % p - a := fun a => ⟨-(a / p), by have := Int.emod_add_mul_ediv a p; grind⟩
  unfold C_inverse2
  rw [rem0, w64_id (by omega) (by omega)]
  refine ⟨fun a => (0 ≤ a.1 ∧ a.1 < p) ∧ (0 ≤ a.2.1 ∧ a.2.1 < p) ∧ (0 ≤ a.2.2.1 ∧ a.2.2.1 ≤ 2147483647) ∧ p ∣ a.1 * a.2.1 ^ a.2.2.1.toNat - v ^ (p - 2).toNat ∧ a.2.2.2 = s, ⟨⟨by dsimp only; omega, by dsimp only; omega⟩, ⟨hv0, hv1⟩, ⟨by dsimp only; omega, by dsimp only; omega⟩, ⟨0, by dsimp only; grind⟩, rfl⟩, ?_⟩
  rintro ⟨r, q, w, s1⟩ ⟨r1, q1, w1, d, e⟩
  dsimp only at r1 q1 w1 d e ⊢
  subst e
  refine ⟨fun c => ?_, fun c v9 ev => ?_⟩
  · have w0 : w.toNat = 0 := by omega
    rw [w0, Int.pow_zero, Int.mul_one] at d
    exact hQ r r1.1 r1.2 d
  · have an : andJ w 1 = w % 2 := andJ_1 w
    have sh : shrJ w 1 = w / 2 := shrJ_1 ⟨by omega, by omega⟩
    rw [an] at ev
    rw [sh]
    have qq := mulb q q q1.1 q1.2 q1.1 q1.2
    have rq := mulb r q r1.1 r1.2 q1.1 q1.2
    rw [rem _ qq.1 qq.2]
    rw [rem _ rq.1 rq.2] at ev
    have m0 := Int.emod_nonneg (q * q) (show p ≠ 0 by omega)
    have m1 := Int.emod_lt_of_pos (q * q) (show 0 < p by omega)
    have n0 := Int.emod_nonneg (r * q) (show p ≠ 0 by omega)
    have n1 := Int.emod_lt_of_pos (r * q) (show 0 < p by omega)
    have pwd : ∀ (a b : Int) (k : Nat), p ∣ a - b → p ∣ a ^ k - b ^ k := fun a b k h => by
      induction k with
      | zero => exact ⟨0, by simp⟩
      | succ k ih =>
        obtain ⟨x, hx⟩ := h
        obtain ⟨y, hy⟩ := ih
        exact ⟨x * a ^ k + b * y, by rw [Int.pow_succ, Int.pow_succ]; grind⟩
    have sq : p ∣ (q * q % p) ^ (w / 2).toNat - (q * q) ^ (w / 2).toNat := pwd _ _ _ (md _)
    have pw2 : (q * q) ^ (w / 2).toNat = q ^ (2 * (w / 2).toNat) := by
      rw [Int.pow_mul]
      congr 1
      rw [Int.pow_succ, Int.pow_succ, Int.pow_zero]; grind
    rw [pw2] at sq
    obtain ⟨x1, hx1⟩ := sq
    obtain ⟨x2, hx2⟩ := d
    by_cases odd : w % 2 = 1
    · rw [if_neg (fun z => z odd)] at ev
      subst ev
      refine ⟨⟨n0, n1⟩, ⟨m0, m1⟩, ⟨by dsimp only; omega, by dsimp only; omega⟩, ?_, rfl⟩
      obtain ⟨x3, hx3⟩ := md (r * q)
      have ew : w.toNat = 2 * (w / 2).toNat + 1 := by omega
      rw [ew, Int.pow_succ] at hx2
      refine ⟨x3 * (q * q % p) ^ (w / 2).toNat + r * q * x1 + x2, ?_⟩
      clear rem mulb md pwd hQ rem0 pw2
      grind
    · rw [if_pos odd] at ev
      subst ev
      refine ⟨r1, ⟨m0, m1⟩, ⟨by dsimp only; omega, by dsimp only; omega⟩, ?_, rfl⟩
      have ew : w.toNat = 2 * (w / 2).toNat := by omega
      rw [ew] at hx2
      refine ⟨v9 * x1 + x2, ?_⟩
      clear rem mulb md pwd hQ rem0 pw2
      grind
