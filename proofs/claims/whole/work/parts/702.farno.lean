/-! two narrow intervals of roots of polynomials without a common root don't overlap -/
theorem int_1 {s : Int} {B : Rat} (h : s ≠ 0) (hb : rb (s : Rat) B) : 1 ≤ B := by
  obtain ⟨b1, b2⟩ := hb
  by_cases k : 1 ≤ s
  · have := Rat.intCast_le_intCast.2 k
    have o : ((1 : Int) : Rat) = 1 := rfl
    rw [o] at this
    grind
  · have := Rat.intCast_le_intCast.2 (show s ≤ -1 by omega)
    have o : ((-1 : Int) : Rat) = -1 := rfl
    rw [o] at this
    grind
theorem len_2 {F : List Int} {l r : Rat} (h1 : 1 ≤ F.length) (hs : pev F l * pev F r < 0) : 2 ≤ F.length := by
  refine Nat.lt_of_not_le (fun w => ?_)
  obtain ⟨a, e⟩ : ∃ a, F = [a] := by
    cases F with
    | nil => simp at h1
    | cons a t =>
      cases t with
      | nil => exact ⟨a, rfl⟩
      | cons b t => simp at w
  rw [e] at hs
  have e1 : ∀ x : Rat, pev [a] x = (a : Rat) := fun x => by
    show (a : Rat) + x * 0 = _
    grind
  rw [e1, e1] at hs
  rcases rsg_c (a : Rat) with ⟨q, _⟩ | ⟨q, _⟩ | ⟨q, _⟩
  · rw [q] at hs; grind
  · have := Rat.mul_pos q q; grind
  · have := Rat.mul_pos (show 0 < -(a : Rat) by grind) (show 0 < -(a : Rat) by grind); grind
theorem in_32 {F : List Int} {l r : Rat} (fF : fct F) (hlr : l < r) (hw : r - l ≤ 1) (hl : rb l ((2 ^ 94 : Nat) : Rat)) (hr : rb r ((2 ^ 94 : Nat) : Rat)) (hz : ∀ x : Rat, l ≤ x → x ≤ r → pev F x ≠ 0) (hs : pev F l * pev F r < 0) : rb l ((2 ^ 32 : Nat) : Rat) ∧ rb r ((2 ^ 32 : Nat) : Rat) := by
  obtain ⟨x, a1, a2, a3, a4⟩ := root_31 fF hlr hw hl hr hz hs
  have e : ((2 ^ 32 : Nat) : Rat) = 4294967296 := rfl
  rw [e]
  exact ⟨⟨by grind, by grind⟩, ⟨by grind, by grind⟩⟩
theorem far_no {A B : List Int} {l1 r1 l2 r2 : Rat} (fA : fct A) (fB : fct B) (hc : cop A B) (h1 : l1 < r1) (h2 : l2 < r2) {T : Nat} (hT : T = 2 ^ 1960) (w1 : (r1 - l1) * (T : Rat) ≤ 1) (w2 : (r2 - l2) * (T : Rat) ≤ 1) (v1 : r1 - l1 ≤ 1) (v2 : r2 - l2 ≤ 1) (bl1 : rb l1 ((2 ^ 94 : Nat) : Rat)) (br1 : rb r1 ((2 ^ 94 : Nat) : Rat)) (bl2 : rb l2 ((2 ^ 94 : Nat) : Rat)) (br2 : rb r2 ((2 ^ 94 : Nat) : Rat)) (z1 : ∀ x : Rat, l1 ≤ x → x ≤ r1 → pev A x ≠ 0) (z2 : ∀ x : Rat, l2 ≤ x → x ≤ r2 → pev B x ≠ 0) (s1 : pev A l1 * pev A r1 < 0) (s2 : pev B l2 * pev B r2 < 0) (o1 : l1 ≤ r2) (o2 : l2 ≤ r1) : False := by
  obtain ⟨c1, d1⟩ := in_32 fA h1 v1 bl1 br1 z1 s1
  obtain ⟨c2, d2⟩ := in_32 fB h2 v2 bl2 br2 z2 s2
  obtain ⟨x, x1, x2, x3, x4⟩ : ∃ x : Rat, l1 ≤ x ∧ x ≤ r1 ∧ l2 ≤ x ∧ x ≤ r2 := by
    by_cases q : l1 ≤ l2
    · exact ⟨l2, q, o2, Rat.le_refl, by grind⟩
    · exact ⟨l1, Rat.le_refl, by grind, by grind, o1⟩
  have hx : rb x ((2 ^ 32 : Nat) : Rat) := ⟨by have := c1.1; grind, by have := d1.2; grind⟩
  have A2 := len_2 fA.1.1 s1
  have B2 := len_2 fB.1.1 s2
  have A9 := fA.1.2.1
  have B9 := fB.1.2.1
  obtain ⟨U, V, s, s0, lU, lV, bU, bV, e⟩ := cop_small (a := A.length - 1) (b := B.length - 1) (H := p27) (by omega) (by omega) (by omega) (by omega) fA.1.2.2.1 hc (fct_pab fA) (fct_pab fB) (by decide)
  have K1 : ((A.length - 1 + (B.length - 1)) * p27) ^ (A.length - 1 + (B.length - 1) - 1) ≤ (16 * p27) ^ 15 := Nat.le_trans (Nat.pow_le_pow_left (Nat.mul_le_mul_right _ (by omega)) _) (Nat.pow_le_pow_right (by decide) (by omega))
  have bU' : pab U ((16 * p27) ^ 15) := fun k => Nat.le_trans (bU k) K1
  have bV' : pab V ((16 * p27) ^ 15) := fun k => Nat.le_trans (bV k) K1
  have X1 : (1 : Rat) ≤ ((2 ^ 32 : Nat) : Rat) := nat_rle (show 1 ≤ 2 ^ 32 by decide)
  have nA := near_b c1 d1 hx x1 x2 (W := r1 - l1) rfl s1 (z1 x x1 x2)
  have nB := near_b c2 d2 hx x3 x4 (W := r2 - l2) rfl s2 (z2 x x3 x4)
  have mA := b1_num X1 7 A (by omega) (fct_pab fA)
  have mB := b1_num X1 7 B (by omega) (fct_pab fB)
  have mU := rb_mono (pev_rb hx U) (b0_num X1 7 U (by omega) bU')
  have mV := rb_mono (pev_rb hx V) (b0_num X1 7 V (by omega) bV')
  obtain ⟨A1, hA1⟩ : ∃ A1 : Nat, A1 = 9 * 9 * p27 * (2 ^ 32) ^ 7 := ⟨_, rfl⟩
  obtain ⟨A2, hA2⟩ : ∃ A2 : Nat, A2 = 8 * (16 * p27) ^ 15 * (2 ^ 32) ^ 7 := ⟨_, rfl⟩
  have e1 : (A1 : Rat) = ((7 + 2 : Nat) : Rat) * ((7 + 2 : Nat) : Rat) * (p27 : Rat) * ((2 ^ 32 : Nat) : Rat) ^ 7 := by
    rw [hA1, Rat.natCast_mul, Rat.natCast_mul, Rat.natCast_mul, Rat.natCast_pow]
  have e2 : (A2 : Rat) = ((7 + 1 : Nat) : Rat) * (((16 * p27) ^ 15 : Nat) : Rat) * ((2 ^ 32 : Nat) : Rat) ^ 7 := by
    rw [hA2, Rat.natCast_mul, Rat.natCast_mul, Rat.natCast_pow (a := 2 ^ 32)]
  rw [← e1] at mA mB
  rw [← e2] at mU mV
  have e196 : (2 ^ 196) ^ 10 = 2 ^ 1960 := (Nat.pow_mul 2 196 10).symm.trans (congrArg (fun n => 2 ^ n) (show 196 * 10 = 1960 from rfl))
  have C2 : 4 * (A2 * A1) ≤ T := by
    rw [hA1, hA2, hT, ← e196]
    decide
  have C3 := nat_rle C2
  have four : ((4 : Nat) : Rat) = 4 := rfl
  rw [Rat.natCast_mul, Rat.natCast_mul, four] at C3
  clear hA1 hA2 hT e1 e2 C2 e196
  generalize (T : Rat) = T at w1 w2 C3
  generalize (A1 : Rat) = CA at mA mB C3
  generalize (A2 : Rat) = CU at mU mV C3
  have p1 : 0 ≤ r1 - l1 := by grind
  have p2 : 0 ≤ r2 - l2 := by grind
  have qA := rb_mono nA (Rat.mul_le_mul_of_nonneg_left mA p1)
  have qB := rb_mono nB (Rat.mul_le_mul_of_nonneg_left mB p2)
  have tot := rb_add (rb_mul mU qA) (rb_mul mV qB)
  rw [← e x] at tot
  have fin := int_1 s0 tot
  generalize r1 - l1 = W1 at w1 p1 fin
  generalize r2 - l2 = W2 at w2 p2 fin
  have k1 := Rat.mul_le_mul_of_nonneg_left C3 p1
  have k2 := Rat.mul_le_mul_of_nonneg_left C3 p2
  have k3 : W1 * (4 * (CU * CA)) = 4 * (CU * (W1 * CA)) := by grind
  have k4 : W2 * (4 * (CU * CA)) = 4 * (CU * (W2 * CA)) := by grind
  rw [k3] at k1
  rw [k4] at k2
  generalize CU * (W1 * CA) = y1 at k1 fin
  generalize CU * (W2 * CA) = y2 at k2 fin
  grind
