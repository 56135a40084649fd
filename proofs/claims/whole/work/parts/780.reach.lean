/-! reach -/
theorem p2mono {a b : Nat} (h : a ≤ b) : (2 : Int) ^ a ≤ 2 ^ b := by
  have e : (2 : Int) ^ b = 2 ^ a * 2 ^ (b - a) := by rw [← Int.pow_add]; congr 1; omega
  rw [e]
  have g := p2p (b - a)
  have f := p2p a
  have : (2 : Int) ^ a * 1 ≤ 2 ^ a * 2 ^ (b - a) := Int.mul_le_mul_of_nonneg_left (by omega) (by omega)
  omega
theorem xorI_nn {x y : Int} (x0 : 0 ≤ x) (x1 : x ≤ 2147483647) (y0 : 0 ≤ y) (y1 : y ≤ 2147483647) : 0 ≤ xorI x y := by
  unfold xorI i2
  have hx : (Int32.ofInt x).toInt = x := im_bm (by omega) (by omega)
  have hy : (Int32.ofInt y).toInt = y := im_bm (by omega) (by omega)
  have mx : (Int32.ofInt x).toBitVec.msb = false := by
    rw [BitVec.msb_eq_toInt]
    have : (Int32.ofInt x).toBitVec.toInt = x := hx
    rw [this]; exact decide_eq_false (by omega)
  have my : (Int32.ofInt y).toBitVec.msb = false := by
    rw [BitVec.msb_eq_toInt]
    have : (Int32.ofInt y).toBitVec.toInt = y := hy
    rw [this]; exact decide_eq_false (by omega)
  have mz : (Int32.ofInt x ^^^ Int32.ofInt y).toBitVec.msb = false := by
    rw [Int32.toBitVec_xor, BitVec.msb_xor, mx, my]; rfl
  rw [BitVec.msb_eq_toInt] at mz
  have := of_decide_eq_false mz
  have e : (Int32.ofInt x ^^^ Int32.ofInt y).toInt = (Int32.ofInt x ^^^ Int32.ofInt y).toBitVec.toInt := rfl
  show 0 ≤ (Int32.ofInt x ^^^ Int32.ofInt y).toInt
  omega
theorem divI_eq {x y : Int} (x0 : -2147483647 ≤ x) (x1 : x ≤ 2147483647) (y0 : -2147483648 ≤ y) (y1 : y ≤ 2147483647) : divI x y = x.tdiv y := by
  unfold divI i2
  have hx : (Int32.ofInt x).toInt = x := im_bm (by omega) (by omega)
  have hy : (Int32.ofInt y).toInt = y := im_bm (by omega) (by omega)
  rw [Int32.toInt_div, hx, hy]
  have : (x.tdiv y).natAbs ≤ x.natAbs := by rw [Int.natAbs_tdiv]; exact Nat.div_le_self _ _
  exact Int.bmod_eq_of_le (by omega) (by omega)
theorem tdiv_fl {x y : Int} (y0 : 0 < y) : x / y ≤ x.tdiv y ∧ (x.tdiv y * y ≠ x → x < 0 → x / y ≤ x.tdiv y - 1) ∧ (x < 0 → x.tdiv y ≤ 0) := by
  have h := Int.mul_tdiv_add_tmod x y
  have h2 := Int.mul_ediv_add_emod x y
  have e1 := Int.emod_nonneg x (show y ≠ 0 by omega)
  have e2 := Int.emod_lt_of_pos x y0
  by_cases c : 0 ≤ x
  · rw [Int.tdiv_eq_ediv_of_nonneg c]
    exact ⟨Int.le_refl _, fun _ h => by omega, fun h => by omega⟩
  · have k : x.tdiv y = -((-x) / y) := by
      rw [show x = -(-x) by omega, Int.neg_tdiv, Int.tdiv_eq_ediv_of_nonneg (by omega), Int.neg_neg]
    have h3 := Int.mul_ediv_add_emod (-x) y
    have e3 := Int.emod_nonneg (-x) (show y ≠ 0 by omega)
    have e4 := Int.emod_lt_of_pos (-x) y0
    have e5 : 0 ≤ (-x) / y := Int.ediv_nonneg (by omega) (by omega)
    rw [k]
    obtain ⟨q, hq⟩ : ∃ q, q = (-x) / y := ⟨_, rfl⟩
    rw [← hq] at h3 e5 ⊢
    refine ⟨?_, fun ne _ => ?_, fun _ => by omega⟩
    · refine Int.le_of_lt_add_one (Int.ediv_lt_of_lt_mul y0 ?_)
      have : (-q + 1) * y = -(y * q) + y := by grind
      omega
    · refine Int.le_of_lt_add_one (Int.ediv_lt_of_lt_mul y0 ?_)
      have e6 : (-q - 1 + 1) * y = -(y * q) := by grind
      have e7 : -q * y = -(y * q) := by grind
      omega
theorem floorDiv_J {x y : Int} {s : im_S} {Q : Int → im_S → Prop} (x0 : -1000 ≤ x) (x1 : x ≤ 1000) (y0 : 1 ≤ y) (y1 : y ≤ 1000) (h : ∀ z, x / y ≤ z → z ≤ 1000 → -1001 ≤ z → (0 ≤ x → z = x / y) → (x < 0 → z ≤ 0) → Q z s) : C_J9_floorDiv_7cf53 x y s Q := by
  have e := divI_eq (x := x) (y := y) (by omega) (by omega) (by omega) (by omega)
  obtain ⟨f1, f2, f3⟩ := tdiv_fl (x := x) (y := y) (by omega)
  have b : (x.tdiv y).natAbs ≤ x.natAbs := by rw [Int.natAbs_tdiv]; exact Nat.div_le_self _ _
  have pos : 0 ≤ x → x.tdiv y = x / y := fun c => Int.tdiv_eq_ediv_of_nonneg c
  have lo : -1001 ≤ x / y := by
    rw [Int.le_ediv_iff_mul_le (by omega)]
    have : -1001 * y ≤ -1001 * 1 := by omega
    omega
  refine ⟨fun _ => ?_, fun c => ⟨fun _ => ?_, fun ne => ?_⟩⟩
  · rw [e]; exact h _ f1 (by omega) (by omega) pos f3
  · rw [e]; exact h _ f1 (by omega) (by omega) pos f3
  · rw [e] at ne ⊢
    have xn : x < 0 := Int.lt_of_not_ge fun z => c (xorI_nn z (by omega) (by omega) (by omega))
    have m : (x.tdiv y * y).natAbs ≤ x.natAbs := by
      rw [Int.natAbs_mul, Int.natAbs_tdiv]
      exact Nat.div_mul_le_self _ _
    rw [w32_id (by omega) (by omega)] at ne
    rw [w32_id (by omega) (by omega)]
    exact h _ (f2 ne xn) (by omega) (by omega) (fun z => by omega) (fun z => by have := f3 z; omega)
theorem wd9_le {v z : Int} (h : wd9 v z) (h2 : v ≤ 288230376151711744) : 0 ≤ z ∧ z ≤ 59 := by
  rcases h with ⟨_, q⟩ | ⟨a, b, c, d⟩
  · omega
  · refine ⟨by omega, Int.le_of_not_gt fun k => ?_⟩
    have : (2 : Int) ^ 59 ≤ 2 ^ (z - 1).toNat := by
      have e : (2 : Int) ^ (z - 1).toNat = 2 ^ 59 * 2 ^ ((z - 1).toNat - 59) := by rw [← Int.pow_add]; congr 1; omega
      rw [e]
      have := p2p ((z - 1).toNat - 59)
      have : (2 : Int) ^ 59 * 1 ≤ 2 ^ 59 * 2 ^ ((z - 1).toNat - 59) := Int.mul_le_mul_of_nonneg_left (by omega) (by decide)
      omega
    have : (288230376151711744 : Int) < 2 ^ 59 := by decide
    omega
/-- what reach says of factor d - i -/
def rcA (P : List Int) (d : Nat) (z : Int) (i : Nat) : Prop := ((pgt P (d - i)).natAbs : Int) * 2 ^ i * 2 ^ (-(z * i)).toNat < ((pgt P d).natAbs : Int) * 2 ^ (z * i).toNat
theorem rcA_mk {P : List Int} {d i : Nat} {z w0 zi : Int} (hi : 1 ≤ i) (h0 : wd9 ((pgt P d).natAbs : Int) w0) (hL : pgt P d ≠ 0) (h1 : wd9 ((pgt P (d - i)).natAbs : Int) zi) (hz : (zi - w0 + i) / i + 1 ≤ z) : rcA P d z i := by
  unfold rcA
  have hi' : (0 : Int) < (i : Int) := by omega
  have k : zi - w0 + i < i * z := by
    have : (zi - w0 + i) / i < z := by omega
    have := (Int.ediv_lt_iff_lt_mul hi').1 this
    rw [Int.mul_comm]; exact this
  generalize (pgt P (d - i)).natAbs = p at h1
  have hL' : 0 < ((pgt P d).natAbs : Int) := by omega
  generalize (pgt P d).natAbs = L at h0 hL'
  rcases h0 with q | ⟨a1, a2, a3, a4⟩
  · omega
  rcases h1 with ⟨q1, q2⟩ | ⟨b1, b2, b3, b4⟩
  · rw [q1, Int.zero_mul, Int.zero_mul]
    exact Int.mul_pos hL' (p2p _)
  · have pA := p2p i
    have pB := p2p (-(z * i)).toNat
    have pC := p2p (z * i).toNat
    have s1 : (p : Int) * 2 ^ i * 2 ^ (-(z * i)).toNat < 2 ^ zi.toNat * 2 ^ i * 2 ^ (-(z * i)).toNat := Int.mul_lt_mul_of_pos_right (Int.mul_lt_mul_of_pos_right b4 pA) pB
    have s2 : (2 : Int) ^ (w0 - 1).toNat * 2 ^ (z * i).toNat ≤ (L : Int) * 2 ^ (z * i).toNat := Int.mul_le_mul_of_nonneg_right a3 (by omega)
    have s3 : (2 : Int) ^ zi.toNat * 2 ^ i * 2 ^ (-(z * i)).toNat ≤ 2 ^ (w0 - 1).toNat * 2 ^ (z * i).toNat := by
      have zi' : i * z = z * i := Int.mul_comm _ _
      generalize z * (i : Int) = y at k zi' ⊢
      have e1 : (2 : Int) ^ zi.toNat * 2 ^ i * 2 ^ (-y).toNat = 2 ^ (zi.toNat + i + (-y).toNat) := by rw [Int.pow_add, Int.pow_add]
      have e2 : (2 : Int) ^ (w0 - 1).toNat * 2 ^ y.toNat = 2 ^ ((w0 - 1).toNat + y.toNat) := by rw [Int.pow_add]
      rw [e1, e2]
      exact p2mono (by omega)
    omega
/-- what reach says when it is large: a factor is -/
def rcB (P : List Int) (d : Nat) (z : Int) : Prop := ∃ k, ((pgt P d).natAbs : Int) * 2 ^ (z - 2).toNat < 2 * ((pgt P k).natAbs : Int)
theorem rcB_mk {P : List Int} {d i : Nat} {z w0 zi : Int} (hi : 1 ≤ i) (h0 : wd9 ((pgt P d).natAbs : Int) w0) (hL : pgt P d ≠ 0) (h1 : wd9 ((pgt P (d - i)).natAbs : Int) zi) (h2 : pgt P (d - i) ≠ 0) (hz : 2 ≤ z) (hzi : z ≤ (zi - w0 + i) / i + 1) : rcB P d z := by
  refine ⟨d - i, ?_⟩
  have hi' : (0 : Int) < (i : Int) := by omega
  have k : (z - 1) * i ≤ zi - w0 + i := (Int.le_ediv_iff_mul_le hi').1 (by omega)
  have k2 : w0 + (z - 2) ≤ zi := by
    have : (z - 2) * 1 ≤ (z - 2) * i := Int.mul_le_mul_of_nonneg_left (by omega) (by omega)
    have e : (z - 1) * (i : Int) = (z - 2) * i + i := by grind
    omega
  rcases h0 with q | ⟨a1, a2, a3, a4⟩
  · omega
  rcases h1 with ⟨q1, q2⟩ | ⟨b1, b2, b3, b4⟩
  · omega
  · have s1 : ((pgt P d).natAbs : Int) * 2 ^ (z - 2).toNat < 2 ^ w0.toNat * 2 ^ (z - 2).toNat := Int.mul_lt_mul_of_pos_right a4 (p2p _)
    rw [← Int.pow_add] at s1
    have s2 : (2 : Int) ^ (w0.toNat + (z - 2).toNat) ≤ 2 ^ zi.toNat := p2mono (by omega)
    have s3 : (2 : Int) ^ zi.toNat = 2 * 2 ^ (zi - 1).toNat := by
      rw [← p2s]; congr 1; omega
    omega
theorem reach_b {s : im_S} {a d : Nat} {P : List Int} {Q : Int → im_S → Prop} (hP : ply s a P) (hd : s.1 a 0 = (d : Int)) (bP : b58 P) (hQ : ∀ z, -32 ≤ z → z ≤ 30 → (z < 30 → ∀ i, 1 ≤ i → i ≤ d → rcA P d z i) → (2 ≤ z → rcB P d z) → Q z s) : C_reach5 a s Q := by
  have d8 : d ≤ 8 := by have := hP.2.2.1; omega
  have L0 : pgt P d ≠ 0 := by have := hP.2.2.2.2 (by omega); rw [hd, Int.toNat_natCast] at this; exact this
  refine lead6_b hP ?_
  have eL : ldc (s.1 a 0) P = pgt P d := by unfold ldc; rw [hd, if_pos (by omega), Int.toNat_natCast]
  rw [eL]
  have bL := bP d
  refine abs_J2 (by omega) (by omega) (width_b ⟨by omega, by omega⟩ (by omega) (fun w0 hw0 => ?_))
  have w0b := wd9_le hw0 bL
  refine ⟨fun q => q.2.2 = s ∧ ∃ i : Nat, q.2.1 = (i : Int) ∧ 1 ≤ i ∧ i ≤ d + 1 ∧ -32 ≤ q.1 ∧ q.1 ≤ 2000 ∧ (∀ k, 1 ≤ k → k < i → ∀ z', q.1 ≤ z' → rcA P d z' k) ∧ (2 ≤ q.1 → ∀ z', 2 ≤ z' → z' ≤ q.1 → rcB P d z'), ⟨rfl, 1, rfl, by omega, by omega, by dsimp only; decide, by dsimp only; decide, fun k k1 k2 => by omega, fun h => by dsimp only at h; omega⟩, ?_⟩
  rintro ⟨R, x, s1⟩ ⟨es, i, ei, i1, id, R1, R2, hA, hB⟩
  dsimp only at es ei R1 R2 hA hB ⊢
  subst es
  subst ei
  unfold C_reach5_16
  rw [show cgf s1 a 0 = (d : Int) from hd]
  refine ⟨fun c => min_J ?_, fun c _ => ?_⟩
  · have : i = d + 1 := by omega
    subst this
    refine hQ _ (by omega) (by omega) (fun h k k1 k2 => hA k k1 (by omega) _ (by omega)) (fun h => hB (by omega) _ h (by omega))
  · have ew : w32 ((d : Int) - (i : Int)) = ((d - i : Nat) : Int) := by rw [w32_id (by omega) (by omega)]; omega
    rw [ew]
    have ev : cga s1 (a + 1) ((d - i : Nat) : Int) = pgt P (d - i) := by
      show s1.2 (a + 1) ((d - i : Nat) : Int).toNat = _
      rw [Int.toNat_natCast]
      exact hP.1 (d - i) (by omega)
    rw [ev]
    have b := bP (d - i)
    refine abs_J2 (by omega) (by omega) ⟨fun z0 => ?_, fun z0 => ?_⟩
    · refine ⟨rfl, i + 1, w32s (by omega), by omega, by omega, R1, R2, fun k k1 k2 z' hz' => ?_, hB⟩
      by_cases ck : k = i
      · subst ck
        unfold rcA
        rw [z0, Int.zero_mul, Int.zero_mul]
        exact Int.mul_pos (by omega) (p2p _)
      · exact hA k k1 (by omega) z' hz'
    · refine width_b ⟨by omega, by omega⟩ (by omega) (fun zi hzi => ?_)
      have zb := wd9_le hzi b
      have e4 : w32 (w32 (w32 (w32 (zi - w0) + 1) + (i : Int)) - 1) = zi - w0 + i := by
        rw [w32_id (x := zi - w0) (by omega) (by omega), w32_id (x := zi - w0 + 1) (by omega) (by omega), w32_id (x := zi - w0 + 1 + (i : Int)) (by omega) (by omega), w32_id (by omega) (by omega)]; omega
      rw [e4]
      refine floorDiv_J (by omega) (by omega) (by omega) (by omega) (fun q q1 q2 q3 q4 q5 => max_J ?_)
      rw [w32_id (x := q + 1) (by omega) (by omega)]
      refine ⟨rfl, i + 1, w32s (by omega), by omega, by omega, by dsimp only; omega, by dsimp only; omega, fun k k1 k2 z' hz' => ?_, fun h z' z1 z2 => ?_⟩
      · dsimp only at hz'
        by_cases ck : k = i
        · subst ck
          exact rcA_mk k1 hw0 L0 hzi (by omega)
        · exact hA k k1 (by omega) z' (by omega)
      · dsimp only at z2
        by_cases cz : z' ≤ R
        · exact hB (by omega) z' z1 cz
        · have xp : 0 ≤ zi - w0 + i := Int.le_of_not_gt fun w => by have := q5 w; omega
          have := q4 xp
          exact rcB_mk i1 hw0 L0 hzi (by omega) z1 (by omega)
