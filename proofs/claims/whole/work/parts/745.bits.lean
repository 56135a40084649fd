theorem toLong_b {a : Nat} {s : im_S} {v : Int} {Q : Int → im_S → Prop} (ha : big s a v) (hv : lR v) (hv2 : v ≠ -9223372036854775808) (hQ : Q v s) : C_toLong1 a s Q := by
  obtain ⟨n, h1, h2, h3, h4, h5⟩ := ha
  have hc : cgf s a 1 = (n : Int) := h1
  have hv1 := hv.1
  have hv3 := hv.2
  have hn : n ≤ 2 := by
    rcases Nat.eq_zero_or_pos n with h | h
    · omega
    · exact bv_size h (h5 h) (show (v.natAbs : Int) < 4294967296 ^ 2 by omega)
  refine min_J ?_
  rw [hc, w32_id (by omega) (by omega)]
  have em : min (n : Int) 2 - 1 = (n : Int) - 1 := by omega
  rw [em]
  refine ⟨fun q => q.2.2 = s ∧ 0 ≤ q.1 ∧ ∃ i : Nat, q.2.1 = (i : Int) - 1 ∧ i ≤ n ∧ q.1 * 4294967296 ^ i + bv (s.2 (a + 1)) i = (v.natAbs : Int), ⟨rfl, Int.le_refl _, n, rfl, Nat.le_refl _, by rw [h4]; show 0 * _ + _ = _; omega⟩, ?_⟩
  rintro ⟨x, l3, s'⟩ ⟨e1, x0, i, e2, i1, i2⟩
  dsimp only at e1 x0 e2 i2 ⊢
  subst e1
  subst e2
  have hc2 : cgf s' a 2 = v.sign := h3
  unfold C_toLong1_13
  refine ⟨fun h z e => ?_, fun h hca => ?_⟩
  · have ei : i = 0 := by omega
    subst ei
    rw [bv_0] at i2
    have ex : x = (v.natAbs : Int) := by
      have : x * 4294967296 ^ 0 = x := by rw [Int.pow_zero, Int.mul_one]
      omega
    have : z = v := by
      rw [e, hc2, ex]
      rcases Int.lt_trichotomy v 0 with c | c | c
      · rw [Int.sign_eq_neg_one_of_neg c, if_neg (by decide), w64_id (by omega) (by omega)]; omega
      · subst c; rfl
      · rw [Int.sign_eq_one_of_pos c, if_pos (by decide)]; omega
    rw [this]; exact hQ
  · obtain ⟨j, rfl⟩ : ∃ j, i = j + 1 := ⟨i - 1, by omega⟩
    have ej : ((j + 1 : Nat) : Int) - 1 = (j : Int) := by omega
    rw [ej, mask_at]
    rw [bv_s, w_succ] at i2
    obtain ⟨y, hy⟩ : ∃ y : Int, y = s'.2 (a + 1) j % 4294967296 := ⟨_, rfl⟩
    have y0 : 0 ≤ y := by rw [hy]; exact Int.emod_nonneg _ (by decide)
    have y1 : y < 4294967296 := by rw [hy]; exact Int.emod_lt_of_pos _ (by decide)
    rw [← hy] at i2 ⊢
    have p1 : (1 : Int) ≤ 4294967296 ^ j := w_pos j
    have xb : x * 4294967296 ≤ 9223372036854775807 := by
      have k1 : x * 4294967296 * 1 ≤ x * 4294967296 * 4294967296 ^ j := Int.mul_le_mul_of_nonneg_left p1 (by omega)
      have k2 := bv_nn (s'.2 (a + 1)) j
      have k3 := Int.mul_nonneg y0 (Int.le_of_lt (w_pos j))
      have k4 : x * (4294967296 * 4294967296 ^ j) = x * 4294967296 * 4294967296 ^ j := (Int.mul_assoc _ _ _).symm
      omega
    have e1 : shlJ x 32 = x * 4294967296 := by
      rw [show shlJ x 32 = w64 (x * 2 ^ 32) from shlJ_eq (k := 32) (by decide)]
      exact w64_id (by omega) (by omega)
    have e2 : orJ (shlJ x 32) y = x * 4294967296 + y := by
      rw [e1, orJ_eq (by omega) y0 y1, w64_id (by omega) (by omega)]
    have e8 : w32 ((j : Int) + -1) = (j : Int) - 1 := by rw [w32_id (by omega) (by omega)]; omega
    rw [e2, e8]
    refine ⟨rfl, by omega, j, rfl, by omega, ?_⟩
    show (x * 4294967296 + y) * 4294967296 ^ j + _ = _
    rw [Int.add_mul, Int.mul_assoc]
    omega
/-- z is the number of bits of v -/
def wd9 (v z : Int) : Prop := (v = 0 ∧ z = 0) ∨ (1 ≤ z ∧ z ≤ 64 ∧ 2 ^ (z - 1).toNat ≤ v ∧ v < 2 ^ z.toNat)
theorem width_b {s : im_S} {v : Int} {Q : Int → im_S → Prop} (hv : lR v) (hv0 : 0 ≤ v) (hQ : ∀ z, wd9 v z → Q z s) : C_width1 v s Q := by
  have hv1 := hv.2
  refine ⟨fun q => q.2.2.2 = s ∧ 0 ≤ q.1 ∧ ∃ b h : Nat, q.2.1 = (b : Int) ∧ q.2.2.1 = (h : Int) ∧ b + 2 * h ≤ 64 ∧ (h = 32 ∨ h = 16 ∨ h = 8 ∨ h = 4 ∨ h = 2 ∨ h = 1 ∨ h = 0) ∧ q.1 = v / 2 ^ b ∧ (v ≠ 0 → q.1 ≠ 0) ∧ (h ≠ 0 → q.1 < 2 ^ (2 * h)) ∧ (h = 0 → q.1 < 2 ∧ b ≤ 63), ⟨rfl, hv0, 0, 32, rfl, rfl, by omega, Or.inl rfl, by show v = v / 1; omega, fun h => h, fun _ => by show v < 2 ^ 64; omega, fun h => absurd h (by decide)⟩, ?_⟩
  rintro ⟨x, l4, l5, s'⟩ ⟨e1, x0, b, h, e2, e3, hbh, hh, i1, i2, i3, i4⟩
  dsimp only at e1 x0 e2 e3 i1 i2 i3 i4 ⊢
  subst e1
  subst e2
  subst e3
  have p0 : (0 : Int) < 2 ^ b := Int.pow_pos (by decide)
  unfold C_width1_9
  refine ⟨fun c z e => ?_, fun c u hu w hw => ?_⟩
  · have eh : h = 0 := by omega
    have i4 := i4 eh
    apply hQ
    rw [e]
    by_cases hx : x = 0
    · rw [if_pos hx]
      have : v = 0 := by
        by_cases h0 : v = 0
        · exact h0
        · exact absurd hx (i2 h0)
      exact Or.inl ⟨this, rfl⟩
    · rw [if_neg hx, w32_id (by omega) (by omega)]
      have hx1 : x = 1 := by omega
      right
      have e1 : ((b : Int) + 1 - 1).toNat = b := by omega
      have e2 : ((b : Int) + 1).toNat = b + 1 := by omega
      rw [e1, e2]
      have k1 := Int.mul_ediv_add_emod v (2 ^ b)
      have k2 := Int.emod_lt_of_pos v p0
      have k3 := Int.emod_nonneg v (show (2 : Int) ^ b ≠ 0 by omega)
      rw [← i1, hx1] at k1
      refine ⟨by omega, by omega, by omega, ?_⟩
      rw [Int.pow_succ]
      omega
  · have h0 : h ≠ 0 := by omega
    have i3 := i3 h0
    have es : ushJ x (h : Int) = x / 2 ^ h := by
      rw [ushJ_eq (by omega) (by omega)]
      have : (2 : Int) ^ (2 * h) ≤ 2 ^ 64 := by
        rcases hh with e | e | e | e | e | e | e <;> (subst e; decide)
      have hx : x < 18446744073709551616 := by
        have e64 : (2 : Int) ^ 64 = 18446744073709551616 := rfl
        omega
      rw [Int.emod_eq_of_lt x0 hx]
    have er : shrI (h : Int) 1 = ((h / 2 : Nat) : Int) := by rw [shrI_1 ⟨by omega, by omega⟩]; omega
    rw [es] at hu hw
    rw [er]
    have ph : (0 : Int) < 2 ^ h := Int.pow_pos (by decide)
    have xm := Int.mul_ediv_add_emod x (2 ^ h)
    have xl := Int.emod_lt_of_pos x ph
    have xg := Int.emod_nonneg x (show (2 : Int) ^ h ≠ 0 by omega)
    by_cases hz : x / 2 ^ h = 0
    · rw [if_pos hz] at hu hw
      subst hu
      subst hw
      rw [hz] at xm
      have hlt : u < 2 ^ h := by omega
      refine ⟨rfl, x0, b, h / 2, rfl, rfl, by omega, by omega, i1, i2, fun hn => ?_, fun hn => ?_⟩
      · rcases hh with e | e | e | e | e | e | e <;> (subst e; first | exact hlt | omega)
      · have eh : h = 1 := by omega
        subst eh
        exact ⟨hlt, by omega⟩
    · rw [if_neg hz, w32_id (by omega) (by omega)] at hw
      rw [if_neg hz] at hu
      subst hu
      subst hw
      have hq0 : 0 ≤ x / 2 ^ h := Int.ediv_nonneg x0 (Int.le_of_lt ph)
      have hlt : x / 2 ^ h < 2 ^ h := by
        apply Int.ediv_lt_of_lt_mul ph
        rw [← Int.pow_add]
        have : h + h = 2 * h := by omega
        rw [this]; exact i3
      refine ⟨rfl, hq0, b + h, h / 2, (show (b : Int) + (h : Int) = ((b + h : Nat) : Int) by omega), rfl, by omega, by omega, ?_, fun _ => hz, fun hn => ?_, fun hn => ?_⟩
      · show x / 2 ^ h = v / 2 ^ (b + h)
        rw [i1, div_div9 (Int.le_of_lt p0), ← Int.pow_add]
      · rcases hh with e | e | e | e | e | e | e <;> (subst e; first | exact hlt | omega)
      · have eh : h = 1 := by omega
        subst eh
        exact ⟨hlt, by omega⟩
theorem bits_b {a : Nat} {s : im_S} {v : Int} {Q : Int → im_S → Prop} (ha : big s a v) (g1 : gln (a + 1) ≤ 1000) (hQ : ∀ z : Int, ((v = 0 ∧ z = 0) ∨ (1 ≤ z ∧ 2 ^ (z - 1).toNat ≤ (v.natAbs : Int) ∧ (v.natAbs : Int) < 2 ^ z.toNat)) → Q z s) : C_bits1 a s Q := by
  obtain ⟨n, h1, h2, h3, h4, h5⟩ := ha
  have hc : cgf s a 1 = (n : Int) := h1
  unfold C_bits1
  rw [hc]
  refine ⟨fun c hca => ?_, fun c => ?_⟩
  · obtain ⟨m, rfl⟩ : ∃ m, n = m + 1 := ⟨n - 1, by omega⟩
    have e1 : w32 (((m + 1 : Nat) : Int) - 1) = (m : Int) := by rw [w32_id (by omega) (by omega)]; omega
    rw [e1, mask_at, w32_id (x := 32 * (m : Int)) (by omega) (by omega)]
    obtain ⟨y, hy⟩ : ∃ y : Int, y = s.2 (a + 1) m % 4294967296 := ⟨_, rfl⟩
    have y0 : 0 ≤ y := by rw [hy]; exact Int.emod_nonneg _ (by decide)
    have y1 : y < 4294967296 := by rw [hy]; exact Int.emod_lt_of_pos _ (by decide)
    rw [← hy]
    refine width_b ⟨by omega, by omega⟩ y0 (fun z hz => ?_)
    show Q (w32 (32 * (m : Int) + z)) s
    have h5 := h5 (by omega)
    rw [bv_s, ← hy] at h4
    have b0 := bv_nn (s.2 (a + 1)) m
    have b1 := bv_lt (s.2 (a + 1)) m
    have yn : y ≠ 0 := by
      intro e
      rw [e, Int.zero_mul] at h4
      rw [Nat.add_sub_cancel] at h5
      omega
    rcases hz with ⟨e, _⟩ | ⟨z1, z2, z3, z4⟩
    · exact absurd e yn
    · rw [w32_id (by omega) (by omega)]
      apply hQ
      right
      have e2 : (32 * (m : Int) + z - 1).toNat = 32 * m + (z - 1).toNat := by omega
      have e3 : (32 * (m : Int) + z).toNat = 32 * m + z.toNat := by omega
      rw [e2, e3, Int.pow_add, Int.pow_add, ← pow_w]
      refine ⟨by omega, ?_, ?_⟩
      · have := Int.mul_le_mul_of_nonneg_left z3 (Int.le_of_lt (w_pos m))
        rw [Int.mul_comm _ y] at this
        omega
      · have k : y + 1 ≤ 2 ^ z.toNat := z4
        have := Int.mul_le_mul_of_nonneg_left k (Int.le_of_lt (w_pos m))
        rw [Int.mul_add, Int.mul_one, Int.mul_comm _ y] at this
        omega
  · have n0 : n = 0 := by omega
    exact hQ 0 (Or.inl ⟨(big_n0 (s := s) h4 h5).mp n0, rfl⟩)
