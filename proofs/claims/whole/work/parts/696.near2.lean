/-! and so no fraction lies within an interval of 1,300 bits -/
theorem rfi_rb {h : Int} {E : Nat} (hb : h.natAbs + 1 ≤ 2 ^ (E + 94)) : rb ((h : Rat) * wd E) ((2 ^ 94 : Nat) : Rat) ∧ rb (((h : Rat) + 1) * wd E) ((2 ^ 94 : Nat) : Rat) := by
  have wp := wd_pos (E : Int)
  have wE := wd_nat E
  have e0 : ((2 ^ E * 2 ^ 94 : Nat) : Rat) = (2 : Rat) ^ E * ((2 ^ 94 : Nat) : Rat) := by
    rw [Rat.natCast_mul, Rat.natCast_pow]; rfl
  rw [Nat.pow_add] at hb
  generalize hK : 2 ^ E * 2 ^ 94 = K at hb e0
  have cK : ((K : Int) : Rat) = (K : Rat) := Rat.intCast_natCast K
  have u1 := Rat.intCast_le_intCast.2 (show -(K : Int) ≤ h by omega)
  have u2 := Rat.intCast_le_intCast.2 (show h ≤ (K : Int) by omega)
  have u3 := Rat.intCast_le_intCast.2 (show -(K : Int) ≤ h + 1 by omega)
  have u4 := Rat.intCast_le_intCast.2 (show h + 1 ≤ (K : Int) by omega)
  rw [Rat.intCast_neg, cK, e0] at u1 u3
  rw [cK, e0] at u2 u4
  rw [Rat.intCast_add] at u3 u4
  have one : ((1 : Int) : Rat) = 1 := rfl
  rw [one] at u3 u4
  generalize ((2 ^ 94 : Nat) : Rat) = X at u1 u2 u3 u4 ⊢
  generalize (2 : Rat) ^ E = T at u1 u2 u3 u4 wE
  generalize wd (E : Int) = w at wp wE ⊢
  have eX : T * X * w = X := by
    rw [show T * X * w = w * T * X by grind, wE, Rat.one_mul]
  have v1 := Rat.mul_le_mul_of_nonneg_right u1 (Rat.le_of_lt wp)
  have v2 := Rat.mul_le_mul_of_nonneg_right u2 (Rat.le_of_lt wp)
  have v3 := Rat.mul_le_mul_of_nonneg_right u3 (Rat.le_of_lt wp)
  have v4 := Rat.mul_le_mul_of_nonneg_right u4 (Rat.le_of_lt wp)
  rw [Rat.neg_mul, eX] at v1 v3
  rw [eX] at v2 v4
  exact ⟨⟨v1, v2⟩, ⟨v3, v4⟩⟩
theorem near_no {F : List Int} {p q h : Int} {E : Nat} (fF : fct F) (hq : 0 < q) (q18 : q ≤ 1000000000000000000) (hb : h.natAbs + 1 ≤ 2 ^ (E + 94)) (h1 : (h : Rat) * wd E ≤ (p : Rat) / (q : Rat)) (h2 : (p : Rat) / (q : Rat) ≤ ((h : Rat) + 1) * wd E) (hz : pev F ((p : Rat) / (q : Rat)) ≠ 0) (hs : pev F ((h : Rat) * wd E) * pev F (((h : Rat) + 1) * wd E) < 0) (hE : 1300 ≤ E) : False := by
  obtain ⟨rl, rr⟩ := rfi_rb hb
  obtain ⟨n, hn⟩ : ∃ n, F.length = n + 1 := ⟨F.length - 1, by have := fF.1.1; omega⟩
  have n8 : n ≤ 8 := by have := fF.1.2.1; omega
  have hx : rb ((p : Rat) / (q : Rat)) ((2 ^ 94 : Nat) : Rat) := ⟨Rat.le_trans rl.1 h1, Rat.le_trans h2 rr.2⟩
  have nb := near_b rl rr hx h1 h2 (W := wd E) (by grind) hs hz
  have fg := frac_ge hq hn hz nb
  have X1 : (1 : Rat) ≤ ((2 ^ 94 : Nat) : Rat) := by
    have := nat_rle (show 1 ≤ 2 ^ 94 by decide)
    exact this
  have bn := b1_num X1 7 F (by omega) (fct_pab fF)
  have b0' := b1_nn (X := ((2 ^ 94 : Nat) : Rat)) (by grind) F
  have e1 : ((9 * 9 * p27 * (2 ^ 94) ^ 7 : Nat) : Rat) = ((7 + 2 : Nat) : Rat) * ((7 + 2 : Nat) : Rat) * (p27 : Rat) * ((2 ^ 94 : Nat) : Rat) ^ 7 := by
    rw [Rat.natCast_mul, Rat.natCast_mul, Rat.natCast_mul, Rat.natCast_pow]
  rw [← e1] at bn
  obtain ⟨Qn, hQ⟩ : ∃ Qn : Nat, q = Qn := ⟨q.toNat, by omega⟩
  subst hQ
  have q1 : Qn ^ n ≤ (1000000000000000000) ^ 8 := Nat.le_trans (Nat.pow_le_pow_left (by omega) n) (Nat.pow_le_pow_right (by decide) n8)
  have q2 := nat_rle q1
  rw [Rat.natCast_pow] at q2
  rw [Rat.intCast_natCast] at fg
  have wE := wd_nat E
  have T1 : ((2 ^ 1300 : Nat) : Rat) ≤ (2 : Rat) ^ E := by
    have := nat_rle (Nat.pow_le_pow_right (show 0 < 2 by decide) hE)
    rw [Rat.natCast_pow (a := 2) (b := E)] at this
    exact this
  have T0 : (0 : Rat) ≤ (2 : Rat) ^ E := Rat.le_trans Rat.natCast_nonneg T1
  have qn0 : (0 : Rat) ≤ (Qn : Rat) ^ n := by
    rw [← Rat.natCast_pow]; exact Rat.natCast_nonneg
  have f1 := Rat.mul_le_mul_of_nonneg_left fg T0
  have f2 : (2 : Rat) ^ E * ((Qn : Rat) ^ n * (wd E * b1 F ((2 ^ 94 : Nat) : Rat))) = (Qn : Rat) ^ n * b1 F ((2 ^ 94 : Nat) : Rat) := by
    generalize (2 : Rat) ^ E = T at wE ⊢
    generalize wd (E : Int) = w at wE ⊢
    generalize b1 F ((2 ^ 94 : Nat) : Rat) = b
    generalize (Qn : Rat) ^ n = y
    rw [show T * (y * (w * b)) = w * T * (y * b) by grind, wE, Rat.one_mul]
  rw [f2, Rat.mul_one] at f1
  have f3 : (Qn : Rat) ^ n * b1 F ((2 ^ 94 : Nat) : Rat) ≤ ((1000000000000000000 ^ 8 : Nat) : Rat) * ((9 * 9 * p27 * (2 ^ 94) ^ 7 : Nat) : Rat) := Rat.le_trans (Rat.mul_le_mul_of_nonneg_right q2 b0') (Rat.mul_le_mul_of_nonneg_left bn Rat.natCast_nonneg)
  rw [← Rat.natCast_mul] at f3
  have f4 := Rat.natCast_le_natCast.1 (Rat.le_trans T1 (Rat.le_trans f1 f3))
  have f5 : 1000000000000000000 ^ 8 * (9 * 9 * p27 * (2 ^ 94) ^ 7) < (2 ^ 130) ^ 10 := by decide
  rw [← Nat.pow_mul] at f5
  omega
