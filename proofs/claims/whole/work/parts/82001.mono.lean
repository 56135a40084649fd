/-- where the derivative is not negative, F does not fall -/
theorem mono_d {F : List Int} {a b : Rat} (hab : a ≤ b) (h : ∀ x, a ≤ x → x ≤ b → 0 ≤ pev (pdl F) x) : pev F a ≤ pev F b := by
  rcases Rat.le_iff_lt_or_eq.1 hab with ab | ab
  · obtain ⟨ra, rb', X0⟩ := sq_rb a b
    obtain ⟨X, hX⟩ : ∃ X, X = a * a + b * b + 1 := ⟨_, rfl⟩
    rw [← hX] at ra rb' X0
    have B0 := b2_nn X0 F
    obtain ⟨B, hB⟩ : ∃ B, B = b2 F X := ⟨_, rfl⟩
    refine Rat.not_lt.1 fun neg => ?_
    obtain ⟨w, hw⟩ : ∃ w, w = pev F a - pev F b := ⟨_, rfl⟩
    have w0 : 0 < w := by grind
    have T0 : 0 ≤ (b - a) * B := Rat.mul_nonneg (by grind) (by grind)
    obtain ⟨d, d0, hd⟩ := narrow (T := (b - a) * B * w⁻¹) (Rat.mul_nonneg T0 (Rat.le_of_lt (Rat.inv_pos.2 w0)))
    obtain ⟨K, e, K1, e0, ed, eb⟩ := steps ab d0
    have xin : ∀ k : Nat, k ≤ K → a ≤ a + (k : Rat) * e ∧ a + (k : Rat) * e ≤ b := fun k hk => by
      have p1 : 0 ≤ (k : Rat) * e := Rat.mul_nonneg (rat_nn k) (Rat.le_of_lt e0)
      have p2 : (k : Rat) * e ≤ (K : Rat) * e := Rat.mul_le_mul_of_nonneg_right (rat_le hk) (Rat.le_of_lt e0)
      constructor
      · grind
      · rw [← eb]; grind
    have low : ∀ k : Nat, k ≤ K → pev F a - (k : Rat) * e * (e * B) ≤ pev F (a + (k : Rat) * e) := fun k => by
      induction k with
      | zero =>
        intro _
        rw [show ((0 : Nat) : Rat) = 0 from rfl]
        have e1 : a + 0 * e = a := by grind
        rw [e1]
        grind
      | succ k ih =>
        intro hk
        have i1 := ih (by omega)
        have x1 := xin k (by omega)
        have x2 := xin (k + 1) hk
        have r1 : rb (a + (k : Rat) * e) X := ⟨by have := ra.1; grind, by have := rb'.2; grind⟩
        have r2 : rb (a + ((k + 1 : Nat) : Rat) * e) X := ⟨by have := ra.1; grind, by have := rb'.2; grind⟩
        obtain ⟨q, q1, q2⟩ := pev_t2 r2 r1 F
        have st : a + ((k + 1 : Nat) : Rat) * e - (a + (k : Rat) * e) = e := by rw [rat_s]; grind
        rw [st] at q2
        have dv := h _ x1.1 x1.2
        have p1 : 0 ≤ e * pev (pdl F) (a + (k : Rat) * e) := Rat.mul_nonneg (Rat.le_of_lt e0) dv
        have p2 : e * e * (-B) ≤ e * e * q := Rat.mul_le_mul_of_nonneg_left (by rw [hB]; exact q1.1) (Rat.mul_nonneg (Rat.le_of_lt e0) (Rat.le_of_lt e0))
        rw [q2, rat_s]
        grind
    have fin := low K (Nat.le_refl _)
    rw [eb] at fin
    have ke : (K : Rat) * e = b - a := by grind
    rw [ke] at fin
    have hd' := hd e (Rat.le_of_lt e0) ed
    have m := Rat.mul_lt_mul_of_pos_right hd' w0
    have wi : w⁻¹ * w = 1 := Rat.inv_mul_cancel _ (fun z => by rw [z] at w0; exact absurd w0 (by decide))
    have e2 : (b - a) * B * w⁻¹ * e * w = (b - a) * B * e * (w⁻¹ * w) := by grind
    rw [e2, wi] at m
    grind
  · rw [ab]; exact Rat.le_refl
theorem mono_s {F : List Int} {a b : Rat} (ab : a < b) (h : ∀ x, a ≤ x → x ≤ b → 0 < pev (pdl F) x) : pev F a < pev F b := by
  have le : ∀ x y, a ≤ x → x ≤ y → y ≤ b → pev F x ≤ pev F y := fun x y h1 h2 h3 => mono_d h2 (fun z z1 z2 => Rat.le_of_lt (h z (Rat.le_trans h1 z1) (Rat.le_trans z2 h3)))
  refine Rat.not_le.1 fun q => ?_
  obtain ⟨ra, rb', X0⟩ := sq_rb a b
  obtain ⟨X, hX⟩ : ∃ X, X = a * a + b * b + 1 := ⟨_, rfl⟩
  rw [← hX] at ra rb' X0
  obtain ⟨B, hB⟩ : ∃ B, B = b2 F X := ⟨_, rfl⟩
  have B0 : 0 ≤ B := by rw [hB]; exact b2_nn X0 F
  have w0 := h a Rat.le_refl (Rat.le_of_lt ab)
  obtain ⟨w, hw⟩ : ∃ w, w = pev (pdl F) a := ⟨_, rfl⟩
  rw [← hw] at w0
  obtain ⟨d, d0, hd⟩ := narrow (T := B * w⁻¹) (Rat.mul_nonneg B0 (Rat.le_of_lt (Rat.inv_pos.2 w0)))
  obtain ⟨K, e, K1, e0, ed, eb⟩ := steps ab d0
  have eb' : a + e ≤ b := by
    have p2 : (1 : Rat) * e ≤ (K : Rat) * e := Rat.mul_le_mul_of_nonneg_right (rat_le K1) (Rat.le_of_lt e0)
    rw [← eb]; grind
  have r2 : rb (a + e) X := ⟨by have := ra.1; grind, by have := rb'.2; grind⟩
  obtain ⟨t, t1, t2⟩ := pev_t2 r2 ra F
  have st : a + e - a = e := by grind
  rw [st, ← hw] at t2
  have u1 := le a (a + e) Rat.le_refl (by grind) eb'
  have u2 := le (a + e) b (by grind) eb' Rat.le_refl
  have z : e * w + e * e * t = 0 := by grind
  have hd' := hd e (Rat.le_of_lt e0) ed
  have m := Rat.mul_lt_mul_of_pos_right hd' w0
  have wi : w⁻¹ * w = 1 := Rat.inv_mul_cancel _ (fun z => by rw [z] at w0; exact absurd w0 (by decide))
  have e2 : B * w⁻¹ * e * w = B * e * (w⁻¹ * w) := by grind
  rw [e2, wi] at m
  have p2 : e * e * (-B) ≤ e * e * t := Rat.mul_le_mul_of_nonneg_left (by rw [hB]; exact t1.1) (Rat.mul_nonneg (Rat.le_of_lt e0) (Rat.le_of_lt e0))
  have m2 := Rat.mul_lt_mul_of_pos_left (show B * e < w by grind) e0
  grind
