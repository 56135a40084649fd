/-! tighten -/
def vs (w : Int) (y : Rat) : Prop := ∃ ka : Rat, 0 < ka ∧ (w : Rat) = ka * y
theorem vs_s {w : Int} {y : Rat} (h : vs w y) : (0 < w ↔ 0 < y) ∧ (w < 0 ↔ y < 0) ∧ (w = 0 ↔ y = 0) := by
  obtain ⟨k, k0, e⟩ := h
  have p : 0 < w ↔ (0 : Rat) < w := by
    rw [← Rat.intCast_lt_intCast]; exact Iff.rfl
  have n : w < 0 ↔ (w : Rat) < 0 := by
    rw [← Rat.intCast_lt_intCast]; exact Iff.rfl
  have z : w = 0 ↔ (w : Rat) = 0 := by
    rw [← Rat.intCast_inj]; exact Iff.rfl
  rw [p, n, z, e]
  refine ⟨⟨fun h => ?_, fun h => Rat.mul_pos k0 h⟩, ⟨fun h => ?_, fun h => ?_⟩, ⟨fun h => ?_, fun h => by rw [h, Rat.mul_zero]⟩⟩
  · refine Rat.not_le.1 fun c => ?_
    have := Rat.mul_le_mul_of_nonneg_left c (Rat.le_of_lt k0)
    grind
  · refine Rat.not_le.1 fun c => ?_
    have := Rat.mul_nonneg (Rat.le_of_lt k0) c
    grind
  · have := Rat.mul_pos k0 (show 0 < -y by grind)
    grind
  · rcases Rat.mul_eq_zero.1 h with q | q
    · grind
    · exact q
theorem rneg_iff {a b : Rat} : a * b < 0 ↔ (0 < a ∧ b < 0) ∨ (a < 0 ∧ 0 < b) := by
  constructor
  · intro h
    rcases rlt_or (show a ≠ 0 from fun z => by rw [z, Rat.zero_mul] at h; grind) with q | q
    · right
      refine ⟨q, Rat.not_le.1 fun c => ?_⟩
      have := Rat.mul_le_mul_of_nonneg_left c (show 0 ≤ -a by grind)
      grind
    · left
      refine ⟨q, Rat.not_le.1 fun c => ?_⟩
      have := Rat.mul_nonneg (Rat.le_of_lt q) c
      grind
  · rintro (⟨h1, h2⟩ | ⟨h1, h2⟩)
    · have := Rat.mul_pos h1 (show 0 < -b by grind)
      grind
    · have := Rat.mul_pos (show 0 < -a by grind) h2
      grind
theorem xv_le {c c' : Int} (b : Int) (h : c ≤ c') : xv c b ≤ xv c' b := by
  rw [xv_mul, xv_mul]
  exact Rat.mul_le_mul_of_nonneg_right (Rat.intCast_le_intCast.2 h) (Rat.le_of_lt (wR_pos b))
theorem xv_up (c b : Int) {lp : Int} (h : 0 ≤ lp) : xv (c * 2 ^ lp.toNat) (b + lp) = xv c b := by
  have := xv_pow c b lp.toNat
  rw [show ((lp.toNat : Nat) : Int) = lp by omega] at this
  exact this
/-- what tighten leaves of root j, from the interval c .. c + 1 over 2 ^ b on -/
def tgo (P : List Int) (s : im_S) (j : Nat) (c b c' b' : Int) : Prop := (s.1 (311 + 3 * j) 1 = 1 ∧ pev P (xv c' b') = 0 ∧ xv c b ≤ xv c' b' ∧ xv c' b' ≤ xv (c + 1) b) ∨ (s.1 (311 + 3 * j) 1 = 0 ∧ cbd c' b' ∧ pev P (xv c' b') * pev P (xv (c' + 1) b') < 0 ∧ xv c b ≤ xv c' b' ∧ xv (c' + 1) b' ≤ xv (c + 1) b)
theorem cbd_W {c b : Int} (h : cbd c b) : (c.natAbs : Int) ≤ 2 ^ (b + 33).toNat ∧ (c.natAbs : Int) * 2 + 2 < W24 := by
  obtain ⟨h1, h2, h3, h4⟩ := h
  have p := p2W (n := (b + 33).toNat) (by omega)
  have := p2p (b + 33).toNat
  omega
def pot9 (a lp : Int) (n : Nat) (g b : Int) : Prop := a = 1 → ∃ k : Nat, 1 ≤ k ∧ lp < 2 ^ k ∧ n + 12 * (g - b).toNat + k ≤ 9000
